theorem hV_X3_bringBack : yX3_bringBack.cls = RX3 ∧ yX3_bringBack.cls ≠ "java/lang/invoke/MethodHandle" ∧ yX3_bringBack.cls ≠ "java/lang/invoke/VarHandle" ∧ (parseMethodDescriptor yX3_bringBack.desc).map (fun d => d.parameters.length) = some 0 := by decide +kernel
theorem hV_X3_failedLong : yX3_failedLong.cls = RX3 ∧ yX3_failedLong.cls ≠ "java/lang/invoke/MethodHandle" ∧ yX3_failedLong.cls ≠ "java/lang/invoke/VarHandle" ∧ (parseMethodDescriptor yX3_failedLong.desc).map (fun d => d.parameters.length) = some 1 := by decide +kernel
theorem hD_X3_isBeyond : yX3_isBeyond.cls ≠ "java/lang/invoke/MethodHandle" ∧ yX3_isBeyond.cls ≠ "java/lang/invoke/VarHandle" ∧ (parseMethodDescriptor yX3_isBeyond.desc).map (fun d => d.parameters.length) = some 3 := by decide +kernel
theorem hV_X3_keepAll : yX3_keepAll.cls = RX3 ∧ yX3_keepAll.cls ≠ "java/lang/invoke/MethodHandle" ∧ yX3_keepAll.cls ≠ "java/lang/invoke/VarHandle" ∧ (parseMethodDescriptor yX3_keepAll.desc).map (fun d => d.parameters.length) = some 0 := by decide +kernel
theorem hV_X3_moreBy : yX3_moreBy.cls = RX3 ∧ yX3_moreBy.cls ≠ "java/lang/invoke/MethodHandle" ∧ yX3_moreBy.cls ≠ "java/lang/invoke/VarHandle" ∧ (parseMethodDescriptor yX3_moreBy.desc).map (fun d => d.parameters.length) = some 1 := by decide +kernel
theorem hV_X3_noCell : yX3_noCell.cls = RX3 ∧ yX3_noCell.cls ≠ "java/lang/invoke/MethodHandle" ∧ yX3_noCell.cls ≠ "java/lang/invoke/VarHandle" ∧ (parseMethodDescriptor yX3_noCell.desc).map (fun d => d.parameters.length) = some 2 := by decide +kernel
theorem hD_X3_share : yX3_share.cls ≠ "java/lang/invoke/MethodHandle" ∧ yX3_share.cls ≠ "java/lang/invoke/VarHandle" ∧ (parseMethodDescriptor yX3_share.desc).map (fun d => d.parameters.length) = some 3 := by decide +kernel
theorem hV_X3_traced : yX3_traced.cls = RX3 ∧ yX3_traced.cls ≠ "java/lang/invoke/MethodHandle" ∧ yX3_traced.cls ≠ "java/lang/invoke/VarHandle" ∧ (parseMethodDescriptor yX3_traced.desc).map (fun d => d.parameters.length) = some 1 := by decide +kernel
theorem hV_X3_votesBy : yX3_votesBy.cls = RX3 ∧ yX3_votesBy.cls ≠ "java/lang/invoke/MethodHandle" ∧ yX3_votesBy.cls ≠ "java/lang/invoke/VarHandle" ∧ (parseMethodDescriptor yX3_votesBy.desc).map (fun d => d.parameters.length) = some 1 := by decide +kernel
set_option maxHeartbeats 4000000 in
set_option maxRecDepth 100000 in
theorem c_X3_put (l : Launch) (D : va_G) (cI cS : ClassId) (ad : Nat → Nat) (fa : Nat) (n : Nat) (fo : Nat) (ki : Nat → Nat) (st : Nat → Nat) (we : Nat → Nat) (lo : Nat → Nat) (ra : Nat) (rch : Nat) (q0 : Nat → Int32) (q1 : Nat → Int32) (q2 : Nat → Int32) (q3 : Nat → Int32) (fk : Nat) (fc : Nat → Nat) (rd : Nat) (rc : Nat → Nat) (rv : Nat → Nat) (sh : Nat → Bool) (sle : Nat → Nat) (sla : Nat → Nat) (bg : Nat → Int32) (hd : Nat → Int32) (tr : Int32) (k : Int32) (i : Int32) (v : Int32) (hnd : nd (adM ad)) (hsla : ∀ j, sla j ≤ 2) (hsle : ∀ j, sle j ≤ 60) : Met l yX3_put wsX3_put ({ frames := 2, cells := 0, slots := 0, locals := 47 }) (PR D cI cS [.ref (ad 0), .int k, .int i, .int v] (wM cI ad fa n fo ki st we lo ra rch q0 q1 q2 q3 fk fc rd rc rv sh sle sla bg hd tr)) (va_Qi (fun r (zz : Unit) => r = A_put sh sle k i) (fun (zz : Unit) t => va_P D vwCl (wM cI ad (S_put sh sle k i) n fo ki st we lo ra rch q0 q1 q2 q3 fk fc rd rc rv sh sle sla (ifO (okPut sh sle k i) (upd bg (60 * k.toNatClampNeg + i.toNatClampNeg) (cutF (sla k.toNatClampNeg) v)) bg) hd tr) t.heap) (AW (adM ad))) 0 0 (AW (adM ad)) := by
  refine startM (by decide) rfl (Nat.le_of_ble_eq_true rfl) hnd rfl ?_
  intro p e s m below meth c hx hb hr hts hown hlk hml hG hP hD hS ls hl
  have hl : lv_has ls 4 [(0, .ref (ad 0)), (1, .int k), (2, .int i), (3, .int v)] := hl
  have f49 := hts (.fieldLink RX3 49 "ChairBallotModel" "sheet" "[I") (by decide +kernel)
  have f46 := hts (.fieldLink RX3 46 "ChairBallotModel" "sheetLane" "[I") (by decide +kernel)
  have yX3 : ∀ w ∈ u_ws RX3 TX3 23, w.before _ s = true := fun w h => hts w ((by decide +kernel : ∀ w ∈ wsX30, w ∈ wsX3_put) w h)
  have hF : CallFix p m c cX3_put 4 s _ wsX3_put RX3 := ⟨hx, hb, hml, hown, hts⟩
  refine lv_iload_n hx hb dX3_put_0 rfl (lv_at hl 1 rfl) ?_
  refine xrd (va_runS (As := [.int k]) (rest := []) hF (c_X3_noSheet l D cI cS k ) (va_cwS 1 hts gX3_put_X3_noSheet rfl rfl rfl hD_X3_noSheet ⟨Nat.le_of_ble_eq_true rfl, Nat.le_of_ble_eq_true rfl⟩) (PR.pre hG (hP.sub (ws' := []) [] rfl)) rfl rfl hl.1 rfl (lv_room (Nat.le_of_ble_eq_true rfl)) dX3_put_1 ⟨Nat.le_refl _, Nat.le_refl _⟩) ?_
  refine lv_if_eq (tgt := 13) hx hb dX3_put_4 (by decide) (fun c_4 => ?_) (fun c_4 => ?_)
  ·
    replace c_4 := bI_0.mp c_4
    replace c_4 := (by simpa using c_4 : (rgB 0 3 k) = true)
    obtain ⟨j, hj0, hj1, rfl⟩ := rgB_nat (by decide) c_4
    have hclj := cl8 (j := j) (by omega)
    have hsj := hsle j
    have hsaj := hsla j
    have hncl := ncF_le (sh := sh) (sle := sle) (j := j) (i := i)
    refine lv_aload_n hx hb dX3_put_13 rfl (lv_at hl 0 rfl) ?_
    refine lv_iload_n hx hb dX3_put_14 rfl (lv_at hl 1 rfl) ?_
    refine lv_iload_n hx hb dX3_put_15 rfl (lv_at hl 2 rfl) ?_
    refine xrd (va_runV (As := [.int (nI j), .int i]) (rest := []) hF (c_X3_noCell l D cI cS ad fa n fo ki st we lo ra rch q0 q1 q2 q3 fk fc rd rc rv sh sle sla bg hd tr j i (by first | assumption | omega) (by omega)) (cwV 2 hts gX3_put_X3_noCell rfl rfl rfl hV_X3_noCell ⟨Nat.le_of_ble_eq_true rfl, Nat.le_of_ble_eq_true rfl⟩) (PR.preV hG hP (ci := 3) rfl rfl) rfl rfl hl.1 rfl (lv_room (Nat.le_of_ble_eq_true rfl)) dX3_put_16 ⟨Nat.le_refl _, Nat.le_refl _⟩) ?_
    refine lv_if_le (tgt := 33) hx hb dX3_put_19 (by decide) (fun c_19 => ?_) (fun c_19 => ?_)
    ·
      replace c_19 := (nI_leI (a := ncF sh sle j i) (b := 0) (by omega) (by omega)).mp c_19
      have hnc0 : ncF sh sle j i = 0 := by omega
      obtain ⟨hz1, hz2⟩ := ncF_0 c_19
      obtain ⟨u, hu, rfl⟩ := hldB_at hz2
      have hclu := cl8 (j := u) (by omega)
      refine lv_aload_n hx hb dX3_put_33 rfl (lv_at hl 0 rfl) ?_
      refine va_get (D := D) (ci := 3) (v := .ref (ad 14)) (C := RX3) (T := TX3) (N := 23) hx hb yX3 (fun _ h => h) hown hG.1 hP 0 rfl rfl 20 (by decide) f49 (fun _ h => h) rfl dX3_put_34 ?_
      refine lv_bipush (v := nI 60) hx hb dX3_put_37 (by decide) ?_
      refine lv_iload_n hx hb dX3_put_39 rfl (lv_at hl 1 rfl) ?_
      refine xmulN hx hb dX3_put_40 ?_
      refine lv_iload_n hx hb dX3_put_41 rfl (lv_at hl 2 rfl) ?_
      refine xaddN hx hb dX3_put_42 ?_
      refine lv_aload_n hx hb dX3_put_43 rfl (lv_at hl 0 rfl) ?_
      refine va_get (D := D) (ci := 3) (v := .ref (ad 13)) (C := RX3) (T := TX3) (N := 23) hx hb yX3 (fun _ h => h) hown hG.1 hP 0 rfl rfl 19 (by decide) f46 (fun _ h => h) rfl dX3_put_44 ?_
      refine lv_iload_n hx hb dX3_put_47 rfl (lv_at hl 1 rfl) ?_
      refine xaldN hx hb hG hP 13 rfl (j) rfl (by omega) (by decide) dX3_put_48 ?_
      refine lv_if_ne (tgt := 57) hx hb dX3_put_49 (by decide) (fun c_49 => ?_) (fun c_49 => ?_)
      ·
        replace c_49 := (not_congr (nI_eq (a := sla j) (b := 0) (by omega) (by omega))).mp c_49
        refine lv_aload_n hx hb dX3_put_57 rfl (lv_at hl 0 rfl) ?_
        refine va_get (D := D) (ci := 3) (v := .ref (ad 13)) (C := RX3) (T := TX3) (N := 23) hx hb yX3 (fun _ h => h) hown hG.1 hP 0 rfl rfl 19 (by decide) f46 (fun _ h => h) rfl dX3_put_58 ?_
        refine lv_iload_n hx hb dX3_put_61 rfl (lv_at hl 1 rfl) ?_
        refine xaldN hx hb hG hP 13 rfl (j) rfl (by omega) (by decide) dX3_put_62 ?_
        refine lv_iconst (v := nI 1) hx hb dX3_put_63 (by decide) ?_
        refine lv_icmp_ne (tgt := 72) hx hb dX3_put_64 (by decide) (fun c_64 => ?_) (fun c_64 => ?_)
        ·
          replace c_64 := (not_congr (nI_eq (a := sla j) (b := 1) (by omega) (by omega))).mp c_64
          refine lv_iload_n hx hb dX3_put_72 rfl (lv_at hl 3 rfl) ?_
          refine xast hx hb hG hP hD hS 14 rfl (60 * j + u) rfl (by omega) (by decide) dX3_put_73 (fun H locs hP hD hS => ?_)
          have hP : va_P D vwCl (wM cI ad fa n fo ki st we lo ra rch q0 q1 q2 q3 fk fc rd rc rv sh sle sla (upd bg (60 * j + u) v) hd tr) H := hP
          have hD : va_D (AW (adM ad)) (wM cI ad fa n fo ki st we lo ra rch q0 q1 q2 q3 fk fc rd rc rv sh sle sla (upd bg (60 * j + u) v) hd tr) := hD
          refine lv_aload_n hx hb dX3_put_74 rfl (lv_at hl 0 rfl) ?_
          refine lv_iconst (v := nI 1) hx hb dX3_put_75 (by decide) ?_
          refine xmuW (va_runV (As := [.int (nI 1)]) (rest := []) hF (c_X3_refused l D cI cS ad fa n fo ki st we lo ra rch q0 q1 q2 q3 fk fc rd rc rv sh sle sla (upd bg (60 * j + u) v) hd tr (nI 1) hnd) (cwV 1 hts gX3_put_X3_refused rfl rfl rfl hV_X3_refused ⟨Nat.le_of_ble_eq_true rfl, Nat.le_of_ble_eq_true rfl⟩) (PR.preV hG hP (ci := 3) rfl rfl) rfl rfl hl.1 rfl (lv_room (Nat.le_of_ble_eq_true rfl)) dX3_put_76 ⟨Nat.le_refl _, Nat.le_refl _⟩) hD hS rfl (fun _ => rfl) (fun r_76 u_76 H locs q_76 hP hD hS => ?_)
          try dsimp only at q_76 hP hD
          have e_76 := q_76
          subst e_76
          have hP : va_P D vwCl (wM cI ad 0 n fo ki st we lo ra rch q0 q1 q2 q3 fk fc rd rc rv sh sle sla (upd bg (60 * j + u) v) hd tr) H := hP
          have hD : va_D (AW (adM ad)) (wM cI ad 0 n fo ki st we lo ra rch q0 q1 q2 q3 fk fc rd rc rv sh sle sla (upd bg (60 * j + u) v) hd tr) := hD
          exact xretM hx hb hr hlk dX3_put_79 hS () (by rw [put_A c_4 hclj] <;> simp [c_4, hclj, c_19, hnc0, hclu, c_49, c_64]) (fun t ht => by rw [ht]; rw [show S_put sh sle (nI j) (nI u) = 0 from by rw [put_S c_4 hclj] <;> simp [c_4, hclj, c_19, hnc0, hclu, c_49, c_64]]; rw [show ifO (okPut sh sle (nI j) (nI u)) (upd bg (60 * (nI j).toNatClampNeg + (nI u).toNatClampNeg) (cutF (sla (nI j).toNatClampNeg) v)) bg = (upd bg (60 * j + u) v) from by rw [put_ok c_4 hclj]; simp [ifO, cutF, c_4, hclj, c_19, hnc0, hclu, c_49, c_64]]; exact hP)
        ·
          replace c_64 := (nI_eq (a := sla j) (b := 1) (by omega) (by omega)).mp c_64
          refine lv_iload_n hx hb dX3_put_67 rfl (lv_at hl 3 rfl) ?_
          refine lv_i2s (v := v.toInt16.toInt32) hx hb dX3_put_68 rfl ?_
          refine lv_goto (tgt := 73) hx hb dX3_put_69 (by decide) ?_
          refine xast hx hb hG hP hD hS 14 rfl (60 * j + u) rfl (by omega) (by decide) dX3_put_73 (fun H locs hP hD hS => ?_)
          have hP : va_P D vwCl (wM cI ad fa n fo ki st we lo ra rch q0 q1 q2 q3 fk fc rd rc rv sh sle sla (upd bg (60 * j + u) v.toInt16.toInt32) hd tr) H := hP
          have hD : va_D (AW (adM ad)) (wM cI ad fa n fo ki st we lo ra rch q0 q1 q2 q3 fk fc rd rc rv sh sle sla (upd bg (60 * j + u) v.toInt16.toInt32) hd tr) := hD
          refine lv_aload_n hx hb dX3_put_74 rfl (lv_at hl 0 rfl) ?_
          refine lv_iconst (v := nI 1) hx hb dX3_put_75 (by decide) ?_
          refine xmuW (va_runV (As := [.int (nI 1)]) (rest := []) hF (c_X3_refused l D cI cS ad fa n fo ki st we lo ra rch q0 q1 q2 q3 fk fc rd rc rv sh sle sla (upd bg (60 * j + u) v.toInt16.toInt32) hd tr (nI 1) hnd) (cwV 1 hts gX3_put_X3_refused rfl rfl rfl hV_X3_refused ⟨Nat.le_of_ble_eq_true rfl, Nat.le_of_ble_eq_true rfl⟩) (PR.preV hG hP (ci := 3) rfl rfl) rfl rfl hl.1 rfl (lv_room (Nat.le_of_ble_eq_true rfl)) dX3_put_76 ⟨Nat.le_refl _, Nat.le_refl _⟩) hD hS rfl (fun _ => rfl) (fun r_76 u_76 H locs q_76 hP hD hS => ?_)
          try dsimp only at q_76 hP hD
          have e_76 := q_76
          subst e_76
          have hP : va_P D vwCl (wM cI ad 0 n fo ki st we lo ra rch q0 q1 q2 q3 fk fc rd rc rv sh sle sla (upd bg (60 * j + u) v.toInt16.toInt32) hd tr) H := hP
          have hD : va_D (AW (adM ad)) (wM cI ad 0 n fo ki st we lo ra rch q0 q1 q2 q3 fk fc rd rc rv sh sle sla (upd bg (60 * j + u) v.toInt16.toInt32) hd tr) := hD
          exact xretM hx hb hr hlk dX3_put_79 hS () (by rw [put_A c_4 hclj] <;> simp [c_4, hclj, c_19, hnc0, hclu, c_49, c_64]) (fun t ht => by rw [ht]; rw [show S_put sh sle (nI j) (nI u) = 0 from by rw [put_S c_4 hclj] <;> simp [c_4, hclj, c_19, hnc0, hclu, c_49, c_64]]; rw [show ifO (okPut sh sle (nI j) (nI u)) (upd bg (60 * (nI j).toNatClampNeg + (nI u).toNatClampNeg) (cutF (sla (nI j).toNatClampNeg) v)) bg = (upd bg (60 * j + u) v.toInt16.toInt32) from by rw [put_ok c_4 hclj]; simp [ifO, cutF, c_4, hclj, c_19, hnc0, hclu, c_49, c_64]]; exact hP)
      ·
        replace c_49 := (nI_eq (a := sla j) (b := 0) (by omega) (by omega)).mp c_49
        refine lv_iload_n hx hb dX3_put_52 rfl (lv_at hl 3 rfl) ?_
        refine lv_i2b (v := v.toInt8.toInt32) hx hb dX3_put_53 rfl ?_
        refine lv_goto (tgt := 73) hx hb dX3_put_54 (by decide) ?_
        refine xast hx hb hG hP hD hS 14 rfl (60 * j + u) rfl (by omega) (by decide) dX3_put_73 (fun H locs hP hD hS => ?_)
        have hP : va_P D vwCl (wM cI ad fa n fo ki st we lo ra rch q0 q1 q2 q3 fk fc rd rc rv sh sle sla (upd bg (60 * j + u) v.toInt8.toInt32) hd tr) H := hP
        have hD : va_D (AW (adM ad)) (wM cI ad fa n fo ki st we lo ra rch q0 q1 q2 q3 fk fc rd rc rv sh sle sla (upd bg (60 * j + u) v.toInt8.toInt32) hd tr) := hD
        refine lv_aload_n hx hb dX3_put_74 rfl (lv_at hl 0 rfl) ?_
        refine lv_iconst (v := nI 1) hx hb dX3_put_75 (by decide) ?_
        refine xmuW (va_runV (As := [.int (nI 1)]) (rest := []) hF (c_X3_refused l D cI cS ad fa n fo ki st we lo ra rch q0 q1 q2 q3 fk fc rd rc rv sh sle sla (upd bg (60 * j + u) v.toInt8.toInt32) hd tr (nI 1) hnd) (cwV 1 hts gX3_put_X3_refused rfl rfl rfl hV_X3_refused ⟨Nat.le_of_ble_eq_true rfl, Nat.le_of_ble_eq_true rfl⟩) (PR.preV hG hP (ci := 3) rfl rfl) rfl rfl hl.1 rfl (lv_room (Nat.le_of_ble_eq_true rfl)) dX3_put_76 ⟨Nat.le_refl _, Nat.le_refl _⟩) hD hS rfl (fun _ => rfl) (fun r_76 u_76 H locs q_76 hP hD hS => ?_)
        try dsimp only at q_76 hP hD
        have e_76 := q_76
        subst e_76
        have hP : va_P D vwCl (wM cI ad 0 n fo ki st we lo ra rch q0 q1 q2 q3 fk fc rd rc rv sh sle sla (upd bg (60 * j + u) v.toInt8.toInt32) hd tr) H := hP
        have hD : va_D (AW (adM ad)) (wM cI ad 0 n fo ki st we lo ra rch q0 q1 q2 q3 fk fc rd rc rv sh sle sla (upd bg (60 * j + u) v.toInt8.toInt32) hd tr) := hD
        exact xretM hx hb hr hlk dX3_put_79 hS () (by rw [put_A c_4 hclj] <;> simp [c_4, hclj, c_19, hnc0, hclu, c_49]) (fun t ht => by rw [ht]; rw [show S_put sh sle (nI j) (nI u) = 0 from by rw [put_S c_4 hclj] <;> simp [c_4, hclj, c_19, hnc0, hclu, c_49]]; rw [show ifO (okPut sh sle (nI j) (nI u)) (upd bg (60 * (nI j).toNatClampNeg + (nI u).toNatClampNeg) (cutF (sla (nI j).toNatClampNeg) v)) bg = (upd bg (60 * j + u) v.toInt8.toInt32) from by rw [put_ok c_4 hclj]; simp [ifO, cutF, c_4, hclj, c_19, hnc0, hclu, c_49]]; exact hP)
    ·
      replace c_19 := (not_congr (nI_leI (a := ncF sh sle j i) (b := 0) (by omega) (by omega))).mp c_19
      have hnc0 : ¬ ncF sh sle j i = 0 := by omega
      refine lv_aload_n hx hb dX3_put_22 rfl (lv_at hl 0 rfl) ?_
      refine lv_aload_n hx hb dX3_put_23 rfl (lv_at hl 0 rfl) ?_
      refine lv_iload_n hx hb dX3_put_24 rfl (lv_at hl 1 rfl) ?_
      refine lv_iload_n hx hb dX3_put_25 rfl (lv_at hl 2 rfl) ?_
      refine xrd (va_runV (As := [.int (nI j), .int i]) (rest := [.ref (ad 0)]) hF (c_X3_noCell l D cI cS ad fa n fo ki st we lo ra rch q0 q1 q2 q3 fk fc rd rc rv sh sle sla bg hd tr j i (by first | assumption | omega) (by omega)) (cwV 2 hts gX3_put_X3_noCell rfl rfl rfl hV_X3_noCell ⟨Nat.le_of_ble_eq_true rfl, Nat.le_of_ble_eq_true rfl⟩) (PR.preV hG hP (ci := 3) rfl rfl) rfl rfl hl.1 rfl (lv_room (Nat.le_of_ble_eq_true rfl)) dX3_put_26 ⟨Nat.le_refl _, Nat.le_refl _⟩) ?_
      refine xmuW (va_runV (As := [.int (nI (ncF sh sle j i))]) (rest := []) hF (c_X3_failed l D cI cS ad fa n fo ki st we lo ra rch q0 q1 q2 q3 fk fc rd rc rv sh sle sla bg hd tr (ncF sh sle j i) hnd) (cwV 1 hts gX3_put_X3_failed rfl rfl rfl hV_X3_failed ⟨Nat.le_of_ble_eq_true rfl, Nat.le_of_ble_eq_true rfl⟩) (PR.preV hG hP (ci := 3) rfl rfl) rfl rfl hl.1 rfl (lv_room (Nat.le_of_ble_eq_true rfl)) dX3_put_29 ⟨Nat.le_refl _, Nat.le_refl _⟩) hD hS rfl (fun _ => rfl) (fun r_29 u_29 H locs q_29 hP hD hS => ?_)
      try dsimp only at q_29 hP hD
      have e_29 := q_29
      subst e_29
      have hP : va_P D vwCl (wM cI ad (ncF sh sle j i) n fo ki st we lo ra rch q0 q1 q2 q3 fk fc rd rc rv sh sle sla bg hd tr) H := hP
      have hD : va_D (AW (adM ad)) (wM cI ad (ncF sh sle j i) n fo ki st we lo ra rch q0 q1 q2 q3 fk fc rd rc rv sh sle sla bg hd tr) := hD
      exact xretM hx hb hr hlk dX3_put_32 hS () (by rw [put_A c_4 hclj] <;> simp [c_4, hclj, c_19, hnc0]) (fun t ht => by rw [ht]; rw [show S_put sh sle (nI j) i = (ncF sh sle j i) from by rw [put_S c_4 hclj] <;> simp [c_4, hclj, c_19, hnc0]]; rw [show ifO (okPut sh sle (nI j) i) (upd bg (60 * (nI j).toNatClampNeg + i.toNatClampNeg) (cutF (sla (nI j).toNatClampNeg) v)) bg = bg from by rw [put_ok c_4 hclj]; simp [ifO, cutF, c_4, hclj, c_19, hnc0]]; exact hP)
  ·
    replace c_4 := bI_n0.mp c_4
    replace c_4 := (by simpa using c_4 : (rgB 0 3 k) = false)
    refine lv_aload_n hx hb dX3_put_7 rfl (lv_at hl 0 rfl) ?_
    refine lv_iconst (v := (-1)) hx hb dX3_put_8 (by decide) ?_
    refine xmuW (va_runV (As := [.int (-1)]) (rest := []) hF (c_X3_refused l D cI cS ad fa n fo ki st we lo ra rch q0 q1 q2 q3 fk fc rd rc rv sh sle sla bg hd tr (-1) hnd) (cwV 1 hts gX3_put_X3_refused rfl rfl rfl hV_X3_refused ⟨Nat.le_of_ble_eq_true rfl, Nat.le_of_ble_eq_true rfl⟩) (PR.preV hG hP (ci := 3) rfl rfl) rfl rfl hl.1 rfl (lv_room (Nat.le_of_ble_eq_true rfl)) dX3_put_9 ⟨Nat.le_refl _, Nat.le_refl _⟩) hD hS rfl (fun _ => rfl) (fun r_9 u_9 H locs q_9 hP hD hS => ?_)
    try dsimp only at q_9 hP hD
    have e_9 := q_9
    subst e_9
    have hP : va_P D vwCl (wM cI ad 0 n fo ki st we lo ra rch q0 q1 q2 q3 fk fc rd rc rv sh sle sla bg hd tr) H := hP
    have hD : va_D (AW (adM ad)) (wM cI ad 0 n fo ki st we lo ra rch q0 q1 q2 q3 fk fc rd rc rv sh sle sla bg hd tr) := hD
    exact xretM hx hb hr hlk dX3_put_12 hS () (by simp [A_put, c_4]) (fun t ht => by rw [ht]; rw [show S_put sh sle k i = 0 from by simp [S_put, c_4]]; rw [show ifO (okPut sh sle k i) (upd bg (60 * k.toNatClampNeg + i.toNatClampNeg) (cutF (sla k.toNatClampNeg) v)) bg = bg from by simp [okPut, ifO, c_4]]; exact hP)

set_option maxHeartbeats 4000000 in
set_option maxRecDepth 100000 in
theorem c_X3_cell (l : Launch) (D : va_G) (cI cS : ClassId) (ad : Nat → Nat) (fa : Nat) (n : Nat) (fo : Nat) (ki : Nat → Nat) (st : Nat → Nat) (we : Nat → Nat) (lo : Nat → Nat) (ra : Nat) (rch : Nat) (q0 : Nat → Int32) (q1 : Nat → Int32) (q2 : Nat → Int32) (q3 : Nat → Int32) (fk : Nat) (fc : Nat → Nat) (rd : Nat) (rc : Nat → Nat) (rv : Nat → Nat) (sh : Nat → Bool) (sle : Nat → Nat) (sla : Nat → Nat) (bg : Nat → Int32) (hd : Nat → Int32) (tr : Int32) (k : Int32) (i : Int32) (v : Int32) (hnd : nd (adM ad)) (hsla : ∀ j, sla j ≤ 2) (hsle : ∀ j, sle j ≤ 60) : Met l yX3_cell wsX3_cell ({ frames := 2, cells := 0, slots := 0, locals := 47 }) (PR D cI cS [.ref (ad 0), .int k, .int i, .int v] (wM cI ad fa n fo ki st we lo ra rch q0 q1 q2 q3 fk fc rd rc rv sh sle sla bg hd tr)) (va_Ql (fun r (zz : Unit) => r = A_cell sh sla sle (bigF bg) k i v) (fun (zz : Unit) t => va_P D vwCl (wM cI ad (S_cell sh sla sle k i v) n fo ki st we lo ra rch q0 q1 q2 q3 fk fc rd rc rv sh sle sla bg hd tr) t.heap) (AW (adM ad))) 0 0 (AW (adM ad)) := by
  refine startM (by decide) rfl (Nat.le_of_ble_eq_true rfl) hnd rfl ?_
  intro p e s m below meth c hx hb hr hts hown hlk hml hG hP hD hS ls hl
  have hl : lv_has ls 4 [(0, .ref (ad 0)), (1, .int k), (2, .int i), (3, .int v)] := hl
  have f57 := hts (.fieldLink RX3 57 "ChairBallotModel" "fault" "I") (by decide +kernel)
  have f43 := hts (.fieldLink RX3 43 "ChairBallotModel" "sheetSize" "[I") (by decide +kernel)
  have f46 := hts (.fieldLink RX3 46 "ChairBallotModel" "sheetLane" "[I") (by decide +kernel)
  have f49 := hts (.fieldLink RX3 49 "ChairBallotModel" "sheet" "[I") (by decide +kernel)
  have yX3 : ∀ w ∈ u_ws RX3 TX3 23, w.before _ s = true := fun w h => hts w ((by decide +kernel : ∀ w ∈ wsX30, w ∈ wsX3_cell) w h)
  have hF : CallFix p m c cX3_cell 4 s _ wsX3_cell RX3 := ⟨hx, hb, hml, hown, hts⟩
  refine lv_aload_n hx hb dX3_cell_0 rfl (lv_at hl 0 rfl) ?_
  refine lv_iconst (v := nI 0) hx hb dX3_cell_1 (by decide) ?_
  refine va_put (D := D) (ci := 3) (v := .int (nI 0)) (ty := .int) (C := RX3) (T := TX3) (N := 23) hx hb yX3 (fun _ h => h) tyX3 tyX3_ok nmX3 hown hG.1 hP hD hS 0 rfl rfl 0 (by decide) f57 (fun _ h => h) rfl (by decide +kernel) rfl rfl (Nat.le_of_ble_eq_true rfl) dX3_cell_2 (fun H locs hP hD hS => ?_)
  have hP : va_P D vwCl (wM cI ad 0 n fo ki st we lo ra rch q0 q1 q2 q3 fk fc rd rc rv sh sle sla bg hd tr) H := hP
  have hD : va_D (AW (adM ad)) (wM cI ad 0 n fo ki st we lo ra rch q0 q1 q2 q3 fk fc rd rc rv sh sle sla bg hd tr) := hD
  refine lv_iload_n hx hb dX3_cell_5 rfl (lv_at hl 1 rfl) ?_
  refine xrd (va_runS (As := [.int k]) (rest := []) hF (c_X3_noSheet l D cI cS k ) (va_cwS 1 hts gX3_cell_X3_noSheet rfl rfl rfl hD_X3_noSheet ⟨Nat.le_of_ble_eq_true rfl, Nat.le_of_ble_eq_true rfl⟩) (PR.pre hG (hP.sub (ws' := []) [] rfl)) rfl rfl hl.1 rfl (lv_room (Nat.le_of_ble_eq_true rfl)) dX3_cell_6 ⟨Nat.le_refl _, Nat.le_refl _⟩) ?_
  refine lv_if_ne (tgt := 24) hx hb dX3_cell_9 (by decide) (fun c_9 => ?_) (fun c_9 => ?_)
  ·
    replace c_9 := bI_n0.mp c_9
    replace c_9 := (by simpa using c_9 : (rgB 0 3 k) = false)
    refine xrdl (va_runS (As := []) (rest := []) hF (c_X3_lost l D cI cS  ) (va_cwS 0 hts gX3_cell_X3_lost rfl rfl rfl hD_X3_lost ⟨Nat.le_of_ble_eq_true rfl, Nat.le_of_ble_eq_true rfl⟩) (PR.pre hG (hP.sub (ws' := []) [] rfl)) rfl rfl hl.1 rfl (lv_room (Nat.le_of_ble_eq_true rfl)) dX3_cell_24 ⟨Nat.le_refl _, Nat.le_refl _⟩) ?_
    exact xretMl hx hb hr hlk dX3_cell_27 hS () (by simp [A_cell, S_cell, fltN, lostL, bigF, c_9]) (fun t ht => by rw [ht]; rw [show S_cell sh sla sle k i v = 0 from by simp [S_cell, fltN, c_9]]; exact hP)
  ·
    replace c_9 := bI_0.mp c_9
    replace c_9 := (by simpa using c_9 : (rgB 0 3 k) = true)
    obtain ⟨j, hj0, hj1, rfl⟩ := rgB_nat (by decide) c_9
    have hclj := cl8 (j := j) (by omega)
    have hsj := hsle j
    have hsaj := hsla j
    have hncl := ncF_le (sh := sh) (sle := sle) (j := j) (i := i)
    refine lv_iload_n hx hb dX3_cell_12 rfl (lv_at hl 3 rfl) ?_
    refine lv_i2l (v := v.toInt64) hx hb dX3_cell_13 rfl ?_
    refine lv_lconst (v := lN 0) hx hb dX3_cell_14 rfl ?_
    refine lv_ldc2 (v := 2) hx hb hown (hts (.constantLong RX3 105 (2)) (by decide +kernel)) dX3_cell_15 ?_
    refine xtopl (x' := lN 2) rfl ?_
    refine xrd (va_runS (As := [.long v.toInt64, .long (lN 0), .long (lN 2)]) (rest := []) hF (c_X3_in l D cI cS v 0 2 (by first | assumption | omega) (by first | assumption | omega)) (va_cwS 3 hts gX3_cell_X3_in rfl rfl rfl hD_X3_in ⟨Nat.le_of_ble_eq_true rfl, Nat.le_of_ble_eq_true rfl⟩) (PR.pre hG (hP.sub (ws' := []) [] rfl)) rfl rfl hl.1 rfl (lv_room (Nat.le_of_ble_eq_true rfl)) dX3_cell_18 ⟨Nat.le_refl _, Nat.le_refl _⟩) ?_
    refine xtop (x' := bI (rgB 0 2 v)) rfl ?_
    refine lv_if_ne (tgt := 28) hx hb dX3_cell_21 (by decide) (fun c_21 => ?_) (fun c_21 => ?_)
    ·
      replace c_21 := bI_n0.mp c_21
      obtain ⟨w, hw0, hw1, rfl⟩ := rgB_nat (by decide) c_21
      have hclw := cl8 (j := w) (by omega)
      refine lv_aload_n hx hb dX3_cell_28 rfl (lv_at hl 0 rfl) ?_
      refine va_get (D := D) (ci := 3) (v := .ref (ad 12)) (C := RX3) (T := TX3) (N := 23) hx hb yX3 (fun _ h => h) hown hG.1 hP 0 rfl rfl 18 (by decide) f43 (fun _ h => h) rfl dX3_cell_29 ?_
      refine lv_iload_n hx hb dX3_cell_32 rfl (lv_at hl 1 rfl) ?_
      refine xald hx hb hG hP 12 rfl (j) rfl (by omega) (by decide) dX3_cell_33 ?_
      refine lv_if_lt (tgt := 53) hx hb dX3_cell_34 (by decide) (fun c_34 => ?_) (fun c_34 => ?_)
      ·
        replace c_34 : ((szI sh sle) j).toInt < 0 := (i32_ltc (b := 0) (by omega)).mp c_34
        have hz34 : sh j = false := szI_lt (sh := sh) (sle := sle) (by omega) (hsle j)
        refine lv_aload_n hx hb dX3_cell_53 rfl (lv_at hl 0 rfl) ?_
        refine lv_iload_n hx hb dX3_cell_54 rfl (lv_at hl 1 rfl) ?_
        refine lv_iload_n hx hb dX3_cell_55 rfl (lv_at hl 2 rfl) ?_
        refine xrd (va_runV (As := [.int (nI j), .int i]) (rest := []) hF (c_X3_noCell l D cI cS ad 0 n fo ki st we lo ra rch q0 q1 q2 q3 fk fc rd rc rv sh sle sla bg hd tr j i (by first | assumption | omega) (by omega)) (cwV 2 hts gX3_cell_X3_noCell rfl rfl rfl hV_X3_noCell ⟨Nat.le_of_ble_eq_true rfl, Nat.le_of_ble_eq_true rfl⟩) (PR.preV hG hP (ci := 3) rfl rfl) rfl rfl hl.1 rfl (lv_room (Nat.le_of_ble_eq_true rfl)) dX3_cell_56 ⟨Nat.le_refl _, Nat.le_refl _⟩) ?_
        refine lv_if_le (tgt := 75) hx hb dX3_cell_59 (by decide) (fun c_59 => ?_) (fun c_59 => ?_)
        ·
          replace c_59 := (nI_leI (a := ncF sh sle j i) (b := 0) (by omega) (by omega)).mp c_59
          exact absurd (ncF_0 c_59).1 (by rw [hz34]; decide)
        ·
          replace c_59 := (not_congr (nI_leI (a := ncF sh sle j i) (b := 0) (by omega) (by omega))).mp c_59
          have hnc := ncF_f (sle := sle) (i := i) hz34
          refine lv_aload_n hx hb dX3_cell_62 rfl (lv_at hl 0 rfl) ?_
          refine lv_aload_n hx hb dX3_cell_63 rfl (lv_at hl 0 rfl) ?_
          refine lv_iload_n hx hb dX3_cell_64 rfl (lv_at hl 1 rfl) ?_
          refine lv_iload_n hx hb dX3_cell_65 rfl (lv_at hl 2 rfl) ?_
          refine xrd (va_runV (As := [.int (nI j), .int i]) (rest := [.ref (ad 0)]) hF (c_X3_noCell l D cI cS ad 0 n fo ki st we lo ra rch q0 q1 q2 q3 fk fc rd rc rv sh sle sla bg hd tr j i (by first | assumption | omega) (by omega)) (cwV 2 hts gX3_cell_X3_noCell rfl rfl rfl hV_X3_noCell ⟨Nat.le_of_ble_eq_true rfl, Nat.le_of_ble_eq_true rfl⟩) (PR.preV hG hP (ci := 3) rfl rfl) rfl rfl hl.1 rfl (lv_room (Nat.le_of_ble_eq_true rfl)) dX3_cell_66 ⟨Nat.le_refl _, Nat.le_refl _⟩) ?_
          refine xmuWl (va_runV (As := [.int (nI (ncF sh sle j i))]) (rest := []) hF (c_X3_failedLong l D cI cS ad 0 n fo ki st we lo ra rch q0 q1 q2 q3 fk fc rd rc rv sh sle sla bg hd tr (ncF sh sle j i) hnd) (cwV 1 hts gX3_cell_X3_failedLong rfl rfl rfl hV_X3_failedLong ⟨Nat.le_of_ble_eq_true rfl, Nat.le_of_ble_eq_true rfl⟩) (PR.preV hG hP (ci := 3) rfl rfl) rfl rfl hl.1 rfl (lv_room (Nat.le_of_ble_eq_true rfl)) dX3_cell_69 ⟨Nat.le_refl _, Nat.le_refl _⟩) hD hS rfl (fun _ => rfl) (fun r_69 u_69 H locs q_69 hP hD hS => ?_)
          try dsimp only at q_69 hP hD
          have e_69 := q_69
          subst e_69
          have hP : va_P D vwCl (wM cI ad (ncF sh sle j i) n fo ki st we lo ra rch q0 q1 q2 q3 fk fc rd rc rv sh sle sla bg hd tr) H := hP
          have hD : va_D (AW (adM ad)) (wM cI ad (ncF sh sle j i) n fo ki st we lo ra rch q0 q1 q2 q3 fk fc rd rc rv sh sle sla bg hd tr) := hD
          refine lv_goto (tgt := 87) hx hb dX3_cell_72 (by decide) ?_
          exact xretMl hx hb hr hlk dX3_cell_87 hS () (by simp [A_cell, S_cell, fltN, lostL, bigF, c_9, hclj, c_21, hclw, c_34, hz34, c_59, hnc]) (fun t ht => by rw [ht]; rw [show S_cell sh sla sle (nI j) i (nI w) = (ncF sh sle j i) from by simp [S_cell, fltN, c_9, hclj, c_21, hclw, c_34, hz34, c_59, hnc]]; exact hP)
      ·
        replace c_34 : ¬ ((szI sh sle) j).toInt < 0 := (not_congr (i32_ltc (b := 0) (by omega))).mp c_34
        have hz34 : sh j = true := szI_ge (sh := sh) (sle := sle) (by omega)
        refine lv_aload_n hx hb dX3_cell_37 rfl (lv_at hl 0 rfl) ?_
        refine va_get (D := D) (ci := 3) (v := .ref (ad 13)) (C := RX3) (T := TX3) (N := 23) hx hb yX3 (fun _ h => h) hown hG.1 hP 0 rfl rfl 19 (by decide) f46 (fun _ h => h) rfl dX3_cell_38 ?_
        refine lv_iload_n hx hb dX3_cell_41 rfl (lv_at hl 1 rfl) ?_
        refine xaldN hx hb hG hP 13 rfl (j) rfl (by omega) (by decide) dX3_cell_42 ?_
        refine lv_iload_n hx hb dX3_cell_43 rfl (lv_at hl 3 rfl) ?_
        refine lv_icmp_eq (tgt := 53) hx hb dX3_cell_44 (by decide) (fun c_44 => ?_) (fun c_44 => ?_)
        ·
          replace c_44 := (nI_eq (a := sla j) (b := w) (by omega) (by omega)).mp c_44
          refine lv_aload_n hx hb dX3_cell_53 rfl (lv_at hl 0 rfl) ?_
          refine lv_iload_n hx hb dX3_cell_54 rfl (lv_at hl 1 rfl) ?_
          refine lv_iload_n hx hb dX3_cell_55 rfl (lv_at hl 2 rfl) ?_
          refine xrd (va_runV (As := [.int (nI j), .int i]) (rest := []) hF (c_X3_noCell l D cI cS ad 0 n fo ki st we lo ra rch q0 q1 q2 q3 fk fc rd rc rv sh sle sla bg hd tr j i (by first | assumption | omega) (by omega)) (cwV 2 hts gX3_cell_X3_noCell rfl rfl rfl hV_X3_noCell ⟨Nat.le_of_ble_eq_true rfl, Nat.le_of_ble_eq_true rfl⟩) (PR.preV hG hP (ci := 3) rfl rfl) rfl rfl hl.1 rfl (lv_room (Nat.le_of_ble_eq_true rfl)) dX3_cell_56 ⟨Nat.le_refl _, Nat.le_refl _⟩) ?_
          refine lv_if_le (tgt := 75) hx hb dX3_cell_59 (by decide) (fun c_59 => ?_) (fun c_59 => ?_)
          ·
            replace c_59 := (nI_leI (a := ncF sh sle j i) (b := 0) (by omega) (by omega)).mp c_59
            obtain ⟨hz1, hz2⟩ := ncF_0 c_59
            obtain ⟨u, hu, rfl⟩ := hldB_at hz2
            have hclu := cl8 (j := u) (by omega)
            refine lv_aload_n hx hb dX3_cell_75 rfl (lv_at hl 0 rfl) ?_
            refine va_get (D := D) (ci := 3) (v := .ref (ad 14)) (C := RX3) (T := TX3) (N := 23) hx hb yX3 (fun _ h => h) hown hG.1 hP 0 rfl rfl 20 (by decide) f49 (fun _ h => h) rfl dX3_cell_76 ?_
            refine lv_bipush (v := nI 60) hx hb dX3_cell_79 (by decide) ?_
            refine lv_iload_n hx hb dX3_cell_81 rfl (lv_at hl 1 rfl) ?_
            refine xmulN hx hb dX3_cell_82 ?_
            refine lv_iload_n hx hb dX3_cell_83 rfl (lv_at hl 2 rfl) ?_
            refine xaddN hx hb dX3_cell_84 ?_
            refine xald hx hb hG hP 14 rfl (60 * j + u) rfl (by omega) (by decide) dX3_cell_85 ?_
            refine lv_i2l (v := (bg (60 * j + u)).toInt64) hx hb dX3_cell_86 rfl ?_
            exact xretMl hx hb hr hlk dX3_cell_87 hS () (by simp [A_cell, S_cell, fltN, lostL, bigF, c_9, hclj, c_21, hclw, c_34, hz34, c_44, hz1, hz2, hclu]) (fun t ht => by rw [ht]; rw [show S_cell sh sla sle (nI j) (nI u) (nI w) = 0 from by simp [S_cell, fltN, c_9, hclj, c_21, hclw, c_34, hz34, c_44, hz1, hz2, hclu]]; exact hP)
          ·
            replace c_59 := (not_congr (nI_leI (a := ncF sh sle j i) (b := 0) (by omega) (by omega))).mp c_59
            obtain ⟨hnc1, hnc⟩ := ncF_n hz34 c_59
            refine lv_aload_n hx hb dX3_cell_62 rfl (lv_at hl 0 rfl) ?_
            refine lv_aload_n hx hb dX3_cell_63 rfl (lv_at hl 0 rfl) ?_
            refine lv_iload_n hx hb dX3_cell_64 rfl (lv_at hl 1 rfl) ?_
            refine lv_iload_n hx hb dX3_cell_65 rfl (lv_at hl 2 rfl) ?_
            refine xrd (va_runV (As := [.int (nI j), .int i]) (rest := [.ref (ad 0)]) hF (c_X3_noCell l D cI cS ad 0 n fo ki st we lo ra rch q0 q1 q2 q3 fk fc rd rc rv sh sle sla bg hd tr j i (by first | assumption | omega) (by omega)) (cwV 2 hts gX3_cell_X3_noCell rfl rfl rfl hV_X3_noCell ⟨Nat.le_of_ble_eq_true rfl, Nat.le_of_ble_eq_true rfl⟩) (PR.preV hG hP (ci := 3) rfl rfl) rfl rfl hl.1 rfl (lv_room (Nat.le_of_ble_eq_true rfl)) dX3_cell_66 ⟨Nat.le_refl _, Nat.le_refl _⟩) ?_
            refine xmuWl (va_runV (As := [.int (nI (ncF sh sle j i))]) (rest := []) hF (c_X3_failedLong l D cI cS ad 0 n fo ki st we lo ra rch q0 q1 q2 q3 fk fc rd rc rv sh sle sla bg hd tr (ncF sh sle j i) hnd) (cwV 1 hts gX3_cell_X3_failedLong rfl rfl rfl hV_X3_failedLong ⟨Nat.le_of_ble_eq_true rfl, Nat.le_of_ble_eq_true rfl⟩) (PR.preV hG hP (ci := 3) rfl rfl) rfl rfl hl.1 rfl (lv_room (Nat.le_of_ble_eq_true rfl)) dX3_cell_69 ⟨Nat.le_refl _, Nat.le_refl _⟩) hD hS rfl (fun _ => rfl) (fun r_69 u_69 H locs q_69 hP hD hS => ?_)
            try dsimp only at q_69 hP hD
            have e_69 := q_69
            subst e_69
            have hP : va_P D vwCl (wM cI ad (ncF sh sle j i) n fo ki st we lo ra rch q0 q1 q2 q3 fk fc rd rc rv sh sle sla bg hd tr) H := hP
            have hD : va_D (AW (adM ad)) (wM cI ad (ncF sh sle j i) n fo ki st we lo ra rch q0 q1 q2 q3 fk fc rd rc rv sh sle sla bg hd tr) := hD
            refine lv_goto (tgt := 87) hx hb dX3_cell_72 (by decide) ?_
            exact xretMl hx hb hr hlk dX3_cell_87 hS () (by simp [A_cell, S_cell, fltN, lostL, bigF, c_9, hclj, c_21, hclw, c_34, hz34, c_44, c_59, hnc1, hnc]) (fun t ht => by rw [ht]; rw [show S_cell sh sla sle (nI j) i (nI w) = (ncF sh sle j i) from by simp [S_cell, fltN, c_9, hclj, c_21, hclw, c_34, hz34, c_44, c_59, hnc1, hnc]]; exact hP)
        ·
          replace c_44 := (not_congr (nI_eq (a := sla j) (b := w) (by omega) (by omega))).mp c_44
          refine lv_aload_n hx hb dX3_cell_47 rfl (lv_at hl 0 rfl) ?_
          refine lv_iconst (v := nI 2) hx hb dX3_cell_48 (by decide) ?_
          refine xmuWl (va_runV (As := [.int (nI 2)]) (rest := []) hF (c_X3_failedLong l D cI cS ad 0 n fo ki st we lo ra rch q0 q1 q2 q3 fk fc rd rc rv sh sle sla bg hd tr 2 hnd) (cwV 1 hts gX3_cell_X3_failedLong rfl rfl rfl hV_X3_failedLong ⟨Nat.le_of_ble_eq_true rfl, Nat.le_of_ble_eq_true rfl⟩) (PR.preV hG hP (ci := 3) rfl rfl) rfl rfl hl.1 rfl (lv_room (Nat.le_of_ble_eq_true rfl)) dX3_cell_49 ⟨Nat.le_refl _, Nat.le_refl _⟩) hD hS rfl (fun _ => rfl) (fun r_49 u_49 H locs q_49 hP hD hS => ?_)
          try dsimp only at q_49 hP hD
          have e_49 := q_49
          subst e_49
          have hP : va_P D vwCl (wM cI ad 2 n fo ki st we lo ra rch q0 q1 q2 q3 fk fc rd rc rv sh sle sla bg hd tr) H := hP
          have hD : va_D (AW (adM ad)) (wM cI ad 2 n fo ki st we lo ra rch q0 q1 q2 q3 fk fc rd rc rv sh sle sla bg hd tr) := hD
          exact xretMl hx hb hr hlk dX3_cell_52 hS () (by simp [A_cell, S_cell, fltN, lostL, bigF, c_9, hclj, c_21, hclw, c_34, hz34, c_44]) (fun t ht => by rw [ht]; rw [show S_cell sh sla sle (nI j) i (nI w) = 2 from by simp [S_cell, fltN, c_9, hclj, c_21, hclw, c_34, hz34, c_44]]; exact hP)
    ·
      replace c_21 := bI_0.mp c_21
      refine xrdl (va_runS (As := []) (rest := []) hF (c_X3_lost l D cI cS  ) (va_cwS 0 hts gX3_cell_X3_lost rfl rfl rfl hD_X3_lost ⟨Nat.le_of_ble_eq_true rfl, Nat.le_of_ble_eq_true rfl⟩) (PR.pre hG (hP.sub (ws' := []) [] rfl)) rfl rfl hl.1 rfl (lv_room (Nat.le_of_ble_eq_true rfl)) dX3_cell_24 ⟨Nat.le_refl _, Nat.le_refl _⟩) ?_
      exact xretMl hx hb hr hlk dX3_cell_27 hS () (by simp [A_cell, S_cell, fltN, lostL, bigF, c_9, hclj, c_21]) (fun t ht => by rw [ht]; rw [show S_cell sh sla sle (nI j) i v = 0 from by simp [S_cell, fltN, c_9, hclj, c_21]]; exact hP)

set_option maxHeartbeats 4000000 in
set_option maxRecDepth 100000 in
theorem c_X3_cellsBarred (l : Launch) (D : va_G) (cI cS : ClassId) (ad : Nat → Nat) (fa : Nat) (n : Nat) (fo : Nat) (ki : Nat → Nat) (st : Nat → Nat) (we : Nat → Nat) (lo : Nat → Nat) (ra : Nat) (rch : Nat) (q0 : Nat → Int32) (q1 : Nat → Int32) (q2 : Nat → Int32) (q3 : Nat → Int32) (fk : Nat) (fc : Nat → Nat) (rd : Nat) (rc : Nat → Nat) (rv : Nat → Nat) (sh : Nat → Bool) (sle : Nat → Nat) (sla : Nat → Nat) (bg : Nat → Int32) (hd : Nat → Int32) (tr : Int32) (j : Nat) (w : Nat) (i : Int32) (ct : Int32) (hnd : nd (adM ad)) (hsla : ∀ j, sla j ≤ 2) (hsle : ∀ j, sle j ≤ 60) (hj4 : j < 4) (hw : w ≤ 2) : Met l yX3_cellsBarred wsX3_cellsBarred ({ frames := 1, cells := 0, slots := 0, locals := 23 }) (PR D cI cS [.ref (ad 0), .int (nI j), .int (nI w), .int i, .long ct.toInt64] (wM cI ad fa n fo ki st we lo ra rch q0 q1 q2 q3 fk fc rd rc rv sh sle sla bg hd tr)) (va_Qi (fun r (zz : Unit) => r = cbR (cbN sh sla sle j w i ct)) (fun (zz : Unit) t => va_P D vwCl (wM cI ad (faN (cbN sh sla sle j w i ct) fa) n fo ki st we lo ra rch q0 q1 q2 q3 fk fc rd rc rv sh sle sla bg hd tr) t.heap) (AW (adM ad))) 0 0 (AW (adM ad)) := by
  refine startM (by decide) rfl (Nat.le_of_ble_eq_true rfl) hnd rfl ?_
  intro p e s m below meth c hx hb hr hts hown hlk hml hG hP hD hS ls hl
  have hl : lv_has ls 6 [(0, .ref (ad 0)), (1, .int (nI j)), (2, .int (nI w)), (3, .int i), (4, .long ct.toInt64)] := hl
  have f43 := hts (.fieldLink RX3 43 "ChairBallotModel" "sheetSize" "[I") (by decide +kernel)
  have f46 := hts (.fieldLink RX3 46 "ChairBallotModel" "sheetLane" "[I") (by decide +kernel)
  have yX3 : ∀ w ∈ u_ws RX3 TX3 23, w.before _ s = true := fun w h => hts w ((by decide +kernel : ∀ w ∈ wsX30, w ∈ wsX3_cellsBarred) w h)
  have hF : CallFix p m c cX3_cellsBarred 6 s _ wsX3_cellsBarred RX3 := ⟨hx, hb, hml, hown, hts⟩
  have hsj := hsle j
  have hsaj := hsla j
  refine lv_aload_n hx hb dX3_cellsBarred_0 rfl (lv_at hl 0 rfl) ?_
  refine va_get (D := D) (ci := 3) (v := .ref (ad 12)) (C := RX3) (T := TX3) (N := 23) hx hb yX3 (fun _ h => h) hown hG.1 hP 0 rfl rfl 18 (by decide) f43 (fun _ h => h) rfl dX3_cellsBarred_1 ?_
  refine lv_iload_n hx hb dX3_cellsBarred_4 rfl (lv_at hl 1 rfl) ?_
  refine xald hx hb hG hP 12 rfl (j) rfl (by omega) (by decide) dX3_cellsBarred_5 ?_
  refine lv_if_lt (tgt := 25) hx hb dX3_cellsBarred_6 (by decide) (fun c_6 => ?_) (fun c_6 => ?_)
  ·
    replace c_6 : ((szI sh sle) j).toInt < 0 := (i32_ltc (b := 0) (by omega)).mp c_6
    have hz6 : sh j = false := szI_lt (sh := sh) (sle := sle) (by omega) (hsle j)
    refine lv_aload_n hx hb dX3_cellsBarred_25 rfl (lv_at hl 0 rfl) ?_
    refine va_get (D := D) (ci := 3) (v := .ref (ad 12)) (C := RX3) (T := TX3) (N := 23) hx hb yX3 (fun _ h => h) hown hG.1 hP 0 rfl rfl 18 (by decide) f43 (fun _ h => h) rfl dX3_cellsBarred_26 ?_
    refine lv_iload_n hx hb dX3_cellsBarred_29 rfl (lv_at hl 1 rfl) ?_
    refine xald hx hb hG hP 12 rfl (j) rfl (by omega) (by decide) dX3_cellsBarred_30 ?_
    refine lv_if_ge (tgt := 40) hx hb dX3_cellsBarred_31 (by decide) (fun c_31 => ?_) (fun c_31 => ?_)
    ·
      replace c_31 : 0 ≤ ((szI sh sle) j).toInt := (i32_gec (b := 0) (by omega)).mp c_31
      exact absurd (szI_ge (sh := sh) (sle := sle) c_31) (by rw [hz6]; decide)
    ·
      replace c_31 : ¬ 0 ≤ ((szI sh sle) j).toInt := (not_congr (i32_gec (b := 0) (by omega))).mp c_31
      have hz31 : sh j = false := szI_lt (sh := sh) (sle := sle) (by omega) (hsle j)
      refine lv_aload_n hx hb dX3_cellsBarred_34 rfl (lv_at hl 0 rfl) ?_
      refine lv_iconst (v := nI 1) hx hb dX3_cellsBarred_35 (by decide) ?_
      refine xmuW (va_runV (As := [.int (nI 1)]) (rest := []) hF (c_X3_failed l D cI cS ad fa n fo ki st we lo ra rch q0 q1 q2 q3 fk fc rd rc rv sh sle sla bg hd tr 1 hnd) (cwV 1 hts gX3_cellsBarred_X3_failed rfl rfl rfl hV_X3_failed ⟨Nat.le_of_ble_eq_true rfl, Nat.le_of_ble_eq_true rfl⟩) (PR.preV hG hP (ci := 3) rfl rfl) rfl rfl hl.1 rfl (lv_room (Nat.le_of_ble_eq_true rfl)) dX3_cellsBarred_36 ⟨Nat.le_refl _, Nat.le_refl _⟩) hD hS rfl (fun _ => rfl) (fun r_36 u_36 H locs q_36 hP hD hS => ?_)
      try dsimp only at q_36 hP hD
      have e_36 := q_36
      subst e_36
      have hP : va_P D vwCl (wM cI ad 1 n fo ki st we lo ra rch q0 q1 q2 q3 fk fc rd rc rv sh sle sla bg hd tr) H := hP
      have hD : va_D (AW (adM ad)) (wM cI ad 1 n fo ki st we lo ra rch q0 q1 q2 q3 fk fc rd rc rv sh sle sla bg hd tr) := hD
      exact xretM hx hb hr hlk dX3_cellsBarred_39 hS () (by simp [cbR, cbN, fltN, c_6, hz6, c_31, hz31]) (fun t ht => by rw [ht]; rw [show faN (cbN sh sla sle j w i ct) fa = 1 from by simp [faN, cbN, fltN, c_6, hz6, c_31, hz31]]; exact hP)
  ·
    replace c_6 : ¬ ((szI sh sle) j).toInt < 0 := (not_congr (i32_ltc (b := 0) (by omega))).mp c_6
    have hz6 : sh j = true := szI_ge (sh := sh) (sle := sle) (by omega)
    refine lv_aload_n hx hb dX3_cellsBarred_9 rfl (lv_at hl 0 rfl) ?_
    refine va_get (D := D) (ci := 3) (v := .ref (ad 13)) (C := RX3) (T := TX3) (N := 23) hx hb yX3 (fun _ h => h) hown hG.1 hP 0 rfl rfl 19 (by decide) f46 (fun _ h => h) rfl dX3_cellsBarred_10 ?_
    refine lv_iload_n hx hb dX3_cellsBarred_13 rfl (lv_at hl 1 rfl) ?_
    refine xaldN hx hb hG hP 13 rfl (j) rfl (by omega) (by decide) dX3_cellsBarred_14 ?_
    refine lv_iload_n hx hb dX3_cellsBarred_15 rfl (lv_at hl 2 rfl) ?_
    refine lv_icmp_eq (tgt := 25) hx hb dX3_cellsBarred_16 (by decide) (fun c_16 => ?_) (fun c_16 => ?_)
    ·
      replace c_16 := (nI_eq (a := sla j) (b := w) (by omega) (by omega)).mp c_16
      refine lv_aload_n hx hb dX3_cellsBarred_25 rfl (lv_at hl 0 rfl) ?_
      refine va_get (D := D) (ci := 3) (v := .ref (ad 12)) (C := RX3) (T := TX3) (N := 23) hx hb yX3 (fun _ h => h) hown hG.1 hP 0 rfl rfl 18 (by decide) f43 (fun _ h => h) rfl dX3_cellsBarred_26 ?_
      refine lv_iload_n hx hb dX3_cellsBarred_29 rfl (lv_at hl 1 rfl) ?_
      refine xald hx hb hG hP 12 rfl (j) rfl (by omega) (by decide) dX3_cellsBarred_30 ?_
      refine lv_if_ge (tgt := 40) hx hb dX3_cellsBarred_31 (by decide) (fun c_31 => ?_) (fun c_31 => ?_)
      ·
        replace c_31 : 0 ≤ ((szI sh sle) j).toInt := (i32_gec (b := 0) (by omega)).mp c_31
        have hz31 : sh j = true := szI_ge (sh := sh) (sle := sle) (by omega)
        refine lv_lload hx hb dX3_cellsBarred_40 (lv_at hl 4 rfl) ?_
        refine lv_lconst (v := lN 0) hx hb dX3_cellsBarred_42 rfl ?_
        refine W.lcmp hx hb dX3_cellsBarred_43 ?_
        refine lv_if_ge (tgt := 53) hx hb dX3_cellsBarred_44 (by decide) (fun c_44 => ?_) (fun c_44 => ?_)
        ·
          replace c_44 : ((0 : Nat) : Int) ≤ ct.toInt := (lgc_ge (Int32.toInt_toInt64 _) (lN_toInt (n := 0) (by omega))).mp c_44
          have h0 : ¬ ct.toInt < 0 := by omega
          refine lv_iload_n hx hb dX3_cellsBarred_53 rfl (lv_at hl 3 rfl) ?_
          refine lv_lload hx hb dX3_cellsBarred_54 (lv_at hl 4 rfl) ?_
          refine lv_aload_n hx hb dX3_cellsBarred_56 rfl (lv_at hl 0 rfl) ?_
          refine va_get (D := D) (ci := 3) (v := .ref (ad 12)) (C := RX3) (T := TX3) (N := 23) hx hb yX3 (fun _ h => h) hown hG.1 hP 0 rfl rfl 18 (by decide) f43 (fun _ h => h) rfl dX3_cellsBarred_57 ?_
          refine lv_iload_n hx hb dX3_cellsBarred_60 rfl (lv_at hl 1 rfl) ?_
          refine xald hx hb hG hP 12 rfl (j) rfl (by omega) (by decide) dX3_cellsBarred_61 ?_
          refine xtop (x' := nI (sle j)) (by exact szI_t (by assumption)) ?_
          refine xrd (va_runS (As := [.int i, .long ct.toInt64, .int (nI (sle j))]) (rest := []) hF (c_X3_isBeyond l D cI cS i ct (sle j) (by exact hsj)) (va_cwS 3 hts gX3_cellsBarred_X3_isBeyond rfl rfl rfl hD_X3_isBeyond ⟨Nat.le_of_ble_eq_true rfl, Nat.le_of_ble_eq_true rfl⟩) (PR.pre hG (hP.sub (ws' := []) [] rfl)) rfl rfl hl.1 rfl (lv_room (Nat.le_of_ble_eq_true rfl)) dX3_cellsBarred_62 ⟨Nat.le_refl _, Nat.le_refl _⟩) ?_
          refine lv_if_eq (tgt := 76) hx hb dX3_cellsBarred_65 (by decide) (fun c_65 => ?_) (fun c_65 => ?_)
          ·
            replace c_65 := bI_0.mp c_65
            replace c_65 := (by simpa using c_65 : (hldB (sle j) i ct) = true)
            refine lv_iconst (v := nI 0) hx hb dX3_cellsBarred_76 (by decide) ?_
            exact xretM hx hb hr hlk dX3_cellsBarred_77 hS () (by simp [cbR, cbN, fltN, c_6, hz6, c_16, c_31, hz31, c_44, h0, c_65]) (fun t ht => by rw [ht]; rw [show faN (cbN sh sla sle j w i ct) fa = fa from by simp [faN, cbN, fltN, c_6, hz6, c_16, c_31, hz31, c_44, h0, c_65]]; exact hP)
          ·
            replace c_65 := bI_n0.mp c_65
            replace c_65 := (by simpa using c_65 : (hldB (sle j) i ct) = false)
            refine lv_aload_n hx hb dX3_cellsBarred_68 rfl (lv_at hl 0 rfl) ?_
            refine lv_iconst (v := nI 3) hx hb dX3_cellsBarred_69 (by decide) ?_
            refine xmuW (va_runV (As := [.int (nI 3)]) (rest := []) hF (c_X3_failed l D cI cS ad fa n fo ki st we lo ra rch q0 q1 q2 q3 fk fc rd rc rv sh sle sla bg hd tr 3 hnd) (cwV 1 hts gX3_cellsBarred_X3_failed rfl rfl rfl hV_X3_failed ⟨Nat.le_of_ble_eq_true rfl, Nat.le_of_ble_eq_true rfl⟩) (PR.preV hG hP (ci := 3) rfl rfl) rfl rfl hl.1 rfl (lv_room (Nat.le_of_ble_eq_true rfl)) dX3_cellsBarred_70 ⟨Nat.le_refl _, Nat.le_refl _⟩) hD hS rfl (fun _ => rfl) (fun r_70 u_70 H locs q_70 hP hD hS => ?_)
            try dsimp only at q_70 hP hD
            have e_70 := q_70
            subst e_70
            have hP : va_P D vwCl (wM cI ad 3 n fo ki st we lo ra rch q0 q1 q2 q3 fk fc rd rc rv sh sle sla bg hd tr) H := hP
            have hD : va_D (AW (adM ad)) (wM cI ad 3 n fo ki st we lo ra rch q0 q1 q2 q3 fk fc rd rc rv sh sle sla bg hd tr) := hD
            refine lv_goto (tgt := 77) hx hb dX3_cellsBarred_73 (by decide) ?_
            exact xretM hx hb hr hlk dX3_cellsBarred_77 hS () (by simp [cbR, cbN, fltN, c_6, hz6, c_16, c_31, hz31, c_44, h0, c_65]) (fun t ht => by rw [ht]; rw [show faN (cbN sh sla sle j w i ct) fa = 3 from by simp [faN, cbN, fltN, c_6, hz6, c_16, c_31, hz31, c_44, h0, c_65]]; exact hP)
        ·
          replace c_44 : ¬ ((0 : Nat) : Int) ≤ ct.toInt := (not_congr (lgc_ge (Int32.toInt_toInt64 _) (lN_toInt (n := 0) (by omega)))).mp c_44
          have h0 : ct.toInt < 0 := by omega
          refine lv_aload_n hx hb dX3_cellsBarred_47 rfl (lv_at hl 0 rfl) ?_
          refine lv_iconst (v := nI 4) hx hb dX3_cellsBarred_48 (by decide) ?_
          refine xmuW (va_runV (As := [.int (nI 4)]) (rest := []) hF (c_X3_failed l D cI cS ad fa n fo ki st we lo ra rch q0 q1 q2 q3 fk fc rd rc rv sh sle sla bg hd tr 4 hnd) (cwV 1 hts gX3_cellsBarred_X3_failed rfl rfl rfl hV_X3_failed ⟨Nat.le_of_ble_eq_true rfl, Nat.le_of_ble_eq_true rfl⟩) (PR.preV hG hP (ci := 3) rfl rfl) rfl rfl hl.1 rfl (lv_room (Nat.le_of_ble_eq_true rfl)) dX3_cellsBarred_49 ⟨Nat.le_refl _, Nat.le_refl _⟩) hD hS rfl (fun _ => rfl) (fun r_49 u_49 H locs q_49 hP hD hS => ?_)
          try dsimp only at q_49 hP hD
          have e_49 := q_49
          subst e_49
          have hP : va_P D vwCl (wM cI ad 4 n fo ki st we lo ra rch q0 q1 q2 q3 fk fc rd rc rv sh sle sla bg hd tr) H := hP
          have hD : va_D (AW (adM ad)) (wM cI ad 4 n fo ki st we lo ra rch q0 q1 q2 q3 fk fc rd rc rv sh sle sla bg hd tr) := hD
          exact xretM hx hb hr hlk dX3_cellsBarred_52 hS () (by simp [cbR, cbN, fltN, c_6, hz6, c_16, c_31, hz31, c_44, h0]) (fun t ht => by rw [ht]; rw [show faN (cbN sh sla sle j w i ct) fa = 4 from by simp [faN, cbN, fltN, c_6, hz6, c_16, c_31, hz31, c_44, h0]]; exact hP)
      ·
        replace c_31 : ¬ 0 ≤ ((szI sh sle) j).toInt := (not_congr (i32_gec (b := 0) (by omega))).mp c_31
        exact absurd (szI_lt (sh := sh) (sle := sle) (by omega) (hsle j)) (by rw [hz6]; decide)
    ·
      replace c_16 := (not_congr (nI_eq (a := sla j) (b := w) (by omega) (by omega))).mp c_16
      refine lv_aload_n hx hb dX3_cellsBarred_19 rfl (lv_at hl 0 rfl) ?_
      refine lv_iconst (v := nI 2) hx hb dX3_cellsBarred_20 (by decide) ?_
      refine xmuW (va_runV (As := [.int (nI 2)]) (rest := []) hF (c_X3_failed l D cI cS ad fa n fo ki st we lo ra rch q0 q1 q2 q3 fk fc rd rc rv sh sle sla bg hd tr 2 hnd) (cwV 1 hts gX3_cellsBarred_X3_failed rfl rfl rfl hV_X3_failed ⟨Nat.le_of_ble_eq_true rfl, Nat.le_of_ble_eq_true rfl⟩) (PR.preV hG hP (ci := 3) rfl rfl) rfl rfl hl.1 rfl (lv_room (Nat.le_of_ble_eq_true rfl)) dX3_cellsBarred_21 ⟨Nat.le_refl _, Nat.le_refl _⟩) hD hS rfl (fun _ => rfl) (fun r_21 u_21 H locs q_21 hP hD hS => ?_)
      try dsimp only at q_21 hP hD
      have e_21 := q_21
      subst e_21
      have hP : va_P D vwCl (wM cI ad 2 n fo ki st we lo ra rch q0 q1 q2 q3 fk fc rd rc rv sh sle sla bg hd tr) H := hP
      have hD : va_D (AW (adM ad)) (wM cI ad 2 n fo ki st we lo ra rch q0 q1 q2 q3 fk fc rd rc rv sh sle sla bg hd tr) := hD
      exact xretM hx hb hr hlk dX3_cellsBarred_24 hS () (by simp [cbR, cbN, fltN, c_6, hz6, c_16]) (fun t ht => by rw [ht]; rw [show faN (cbN sh sla sle j w i ct) fa = 2 from by simp [faN, cbN, fltN, c_6, hz6, c_16]]; exact hP)

set_option maxHeartbeats 4000000 in
set_option maxRecDepth 100000 in
theorem c_X3_cellsBarredN (l : Launch) (D : va_G) (cI cS : ClassId) (ad : Nat → Nat) (fa : Nat) (n : Nat) (fo : Nat) (ki : Nat → Nat) (st : Nat → Nat) (we : Nat → Nat) (lo : Nat → Nat) (ra : Nat) (rch : Nat) (q0 : Nat → Int32) (q1 : Nat → Int32) (q2 : Nat → Int32) (q3 : Nat → Int32) (fk : Nat) (fc : Nat → Nat) (rd : Nat) (rc : Nat → Nat) (rv : Nat → Nat) (sh : Nat → Bool) (sle : Nat → Nat) (sla : Nat → Nat) (bg : Nat → Int32) (hd : Nat → Int32) (tr : Int32) (j : Nat) (w : Nat) (i : Int32) (c2 : Nat) (hnd : nd (adM ad)) (hsla : ∀ j, sla j ≤ 2) (hsle : ∀ j, sle j ≤ 60) (hj4 : j < 4) (hw : w ≤ 2) (hc2 : c2 < 2 ^ 31) : Met l yX3_cellsBarred wsX3_cellsBarred ({ frames := 1, cells := 0, slots := 0, locals := 23 }) (PR D cI cS [.ref (ad 0), .int (nI j), .int (nI w), .int i, .long (lN c2)] (wM cI ad fa n fo ki st we lo ra rch q0 q1 q2 q3 fk fc rd rc rv sh sle sla bg hd tr)) (va_Qi (fun r (zz : Unit) => r = cbR (cbN sh sla sle j w i (nI c2))) (fun (zz : Unit) t => va_P D vwCl (wM cI ad (faN (cbN sh sla sle j w i (nI c2)) fa) n fo ki st we lo ra rch q0 q1 q2 q3 fk fc rd rc rv sh sle sla bg hd tr) t.heap) (AW (adM ad))) 0 0 (AW (adM ad)) := by
  have h := c_X3_cellsBarred l D cI cS ad fa n fo ki st we lo ra rch q0 q1 q2 q3 fk fc rd rc rv sh sle sla bg hd tr j w i (nI c2) hnd hsla hsle hj4 hw
  rw [nI_l hc2] at h
  exact h

set_option maxHeartbeats 4000000 in
set_option maxRecDepth 100000 in
theorem c_X3_copy (l : Launch) (D : va_G) (cI cS : ClassId) (ad : Nat → Nat) (fa : Nat) (n : Nat) (fo : Nat) (ki : Nat → Nat) (st : Nat → Nat) (we : Nat → Nat) (lo : Nat → Nat) (ra : Nat) (rch : Nat) (q0 : Nat → Int32) (q1 : Nat → Int32) (q2 : Nat → Int32) (q3 : Nat → Int32) (fk : Nat) (fc : Nat → Nat) (rd : Nat) (rc : Nat → Nat) (rv : Nat → Nat) (sh : Nat → Bool) (sle : Nat → Nat) (sla : Nat → Nat) (bg : Nat → Int32) (hd : Nat → Int32) (tr : Int32) (k : Int32) (i : Int32) (k2 : Int32) (i2 : Int32) (ct : Int32) (hnd : nd (adM ad)) (hsla : ∀ j, sla j ≤ 2) (hsle : ∀ j, sle j ≤ 60) : Met l yX3_copy wsX3_copy ({ frames := 2, cells := 0, slots := 0, locals := 45 }) (PR D cI cS [.ref (ad 0), .int k, .int i, .int k2, .int i2, .int ct] (wM cI ad fa n fo ki st we lo ra rch q0 q1 q2 q3 fk fc rd rc rv sh sle sla bg hd tr)) (va_Qi (fun r (zz : (Nat → Int32)) => r = A_copy sh sla sle k i k2 i2 ct) (fun (zz : (Nat → Int32)) t => va_P D vwCl (wM cI ad (S_copy sh sla sle k i k2 i2 ct) n fo ki st we lo ra rch q0 q1 q2 q3 fk fc rd rc rv sh sle sla (ifO (okCopy sh sla sle k i k2 i2 ct) (cpG (60 * k.toNatClampNeg + i.toNatClampNeg) (60 * k2.toNatClampNeg + i2.toNatClampNeg) ct.toNatClampNeg bg) bg) zz tr) t.heap) (AW (adM ad))) 0 0 (AW (adM ad)) := by
  refine startM (by decide) rfl (Nat.le_of_ble_eq_true rfl) hnd rfl ?_
  intro p e s m below meth c hx hb hr hts hown hlk hml hG hP hD hS ls hl
  have hl : lv_has ls 7 [(0, .ref (ad 0)), (1, .int k), (2, .int i), (3, .int k2), (4, .int i2), (5, .int ct)] := hl
  have f43 := hts (.fieldLink RX3 43 "ChairBallotModel" "sheetSize" "[I") (by decide +kernel)
  have f46 := hts (.fieldLink RX3 46 "ChairBallotModel" "sheetLane" "[I") (by decide +kernel)
  have f52 := hts (.fieldLink RX3 52 "ChairBallotModel" "hands" "[I") (by decide +kernel)
  have f49 := hts (.fieldLink RX3 49 "ChairBallotModel" "sheet" "[I") (by decide +kernel)
  have yX3 : ∀ w ∈ u_ws RX3 TX3 23, w.before _ s = true := fun w h => hts w ((by decide +kernel : ∀ w ∈ wsX30, w ∈ wsX3_copy) w h)
  have hF : CallFix p m c cX3_copy 7 s _ wsX3_copy RX3 := ⟨hx, hb, hml, hown, hts⟩
  refine lv_iload_n hx hb dX3_copy_0 rfl (lv_at hl 1 rfl) ?_
  refine xrd (va_runS (As := [.int k]) (rest := []) hF (c_X3_noSheet l D cI cS k ) (va_cwS 1 hts gX3_copy_X3_noSheet rfl rfl rfl hD_X3_noSheet ⟨Nat.le_of_ble_eq_true rfl, Nat.le_of_ble_eq_true rfl⟩) (PR.pre hG (hP.sub (ws' := []) [] rfl)) rfl rfl hl.1 rfl (lv_room (Nat.le_of_ble_eq_true rfl)) dX3_copy_1 ⟨Nat.le_refl _, Nat.le_refl _⟩) ?_
  refine lv_if_ne (tgt := 14) hx hb dX3_copy_4 (by decide) (fun c_4 => ?_) (fun c_4 => ?_)
  ·
    replace c_4 := bI_n0.mp c_4
    replace c_4 := (by simpa using c_4 : (rgB 0 3 k) = false)
    refine lv_aload_n hx hb dX3_copy_14 rfl (lv_at hl 0 rfl) ?_
    refine lv_iconst (v := (-1)) hx hb dX3_copy_15 (by decide) ?_
    refine xmuW (va_runV (As := [.int (-1)]) (rest := []) hF (c_X3_refused l D cI cS ad fa n fo ki st we lo ra rch q0 q1 q2 q3 fk fc rd rc rv sh sle sla bg hd tr (-1) hnd) (cwV 1 hts gX3_copy_X3_refused rfl rfl rfl hV_X3_refused ⟨Nat.le_of_ble_eq_true rfl, Nat.le_of_ble_eq_true rfl⟩) (PR.preV hG hP (ci := 3) rfl rfl) rfl rfl hl.1 rfl (lv_room (Nat.le_of_ble_eq_true rfl)) dX3_copy_16 ⟨Nat.le_refl _, Nat.le_refl _⟩) hD hS rfl (fun _ => rfl) (fun r_16 u_16 H locs q_16 hP hD hS => ?_)
    try dsimp only at q_16 hP hD
    have e_16 := q_16
    subst e_16
    have hP : va_P D vwCl (wM cI ad 0 n fo ki st we lo ra rch q0 q1 q2 q3 fk fc rd rc rv sh sle sla bg hd tr) H := hP
    have hD : va_D (AW (adM ad)) (wM cI ad 0 n fo ki st we lo ra rch q0 q1 q2 q3 fk fc rd rc rv sh sle sla bg hd tr) := hD
    exact xretM hx hb hr hlk dX3_copy_19 hS hd (by simp [A_copy, c_4]) (fun t ht => by rw [ht]; rw [show S_copy sh sla sle k i k2 i2 ct = 0 from by simp [S_copy, c_4]]; rw [show ifO (okCopy sh sla sle k i k2 i2 ct) (cpG (60 * k.toNatClampNeg + i.toNatClampNeg) (60 * k2.toNatClampNeg + i2.toNatClampNeg) ct.toNatClampNeg bg) bg = bg from by simp [okCopy, ifO, cp_pt, c_4]]; exact hP)
  ·
    replace c_4 := bI_0.mp c_4
    replace c_4 := (by simpa using c_4 : (rgB 0 3 k) = true)
    obtain ⟨j, hj0, hj1, rfl⟩ := rgB_nat (by decide) c_4
    have hclj := cl8 (j := j) (by omega)
    have hsj := hsle j
    have hsaj := hsla j
    refine lv_iload_n hx hb dX3_copy_7 rfl (lv_at hl 3 rfl) ?_
    refine xrd (va_runS (As := [.int k2]) (rest := []) hF (c_X3_noSheet l D cI cS k2 ) (va_cwS 1 hts gX3_copy_X3_noSheet rfl rfl rfl hD_X3_noSheet ⟨Nat.le_of_ble_eq_true rfl, Nat.le_of_ble_eq_true rfl⟩) (PR.pre hG (hP.sub (ws' := []) [] rfl)) rfl rfl hl.1 rfl (lv_room (Nat.le_of_ble_eq_true rfl)) dX3_copy_8 ⟨Nat.le_refl _, Nat.le_refl _⟩) ?_
    refine lv_if_eq (tgt := 20) hx hb dX3_copy_11 (by decide) (fun c_11 => ?_) (fun c_11 => ?_)
    ·
      replace c_11 := bI_0.mp c_11
      replace c_11 := (by simpa using c_11 : (rgB 0 3 k2) = true)
      obtain ⟨j2, hj20, hj21, rfl⟩ := rgB_nat (by decide) c_11
      have hclj2 := cl8 (j := j2) (by omega)
      have hsj2 := hsle j2
      have hsaj2 := hsla j2
      refine lv_aload_n hx hb dX3_copy_20 rfl (lv_at hl 0 rfl) ?_
      refine va_get (D := D) (ci := 3) (v := .ref (ad 12)) (C := RX3) (T := TX3) (N := 23) hx hb yX3 (fun _ h => h) hown hG.1 hP 0 rfl rfl 18 (by decide) f43 (fun _ h => h) rfl dX3_copy_21 ?_
      refine lv_iload_n hx hb dX3_copy_24 rfl (lv_at hl 1 rfl) ?_
      refine xald hx hb hG hP 12 rfl (j) rfl (by omega) (by decide) dX3_copy_25 ?_
      refine lv_if_lt (tgt := 38) hx hb dX3_copy_26 (by decide) (fun c_26 => ?_) (fun c_26 => ?_)
      ·
        replace c_26 : ((szI sh sle) j).toInt < 0 := (i32_ltc (b := 0) (by omega)).mp c_26
        have hz26 : sh j = false := szI_lt (sh := sh) (sle := sle) (by omega) (hsle j)
        refine lv_aload_n hx hb dX3_copy_38 rfl (lv_at hl 0 rfl) ?_
        refine lv_iconst (v := nI 1) hx hb dX3_copy_39 (by decide) ?_
        refine xmuW (va_runV (As := [.int (nI 1)]) (rest := []) hF (c_X3_failed l D cI cS ad fa n fo ki st we lo ra rch q0 q1 q2 q3 fk fc rd rc rv sh sle sla bg hd tr 1 hnd) (cwV 1 hts gX3_copy_X3_failed rfl rfl rfl hV_X3_failed ⟨Nat.le_of_ble_eq_true rfl, Nat.le_of_ble_eq_true rfl⟩) (PR.preV hG hP (ci := 3) rfl rfl) rfl rfl hl.1 rfl (lv_room (Nat.le_of_ble_eq_true rfl)) dX3_copy_40 ⟨Nat.le_refl _, Nat.le_refl _⟩) hD hS rfl (fun _ => rfl) (fun r_40 u_40 H locs q_40 hP hD hS => ?_)
        try dsimp only at q_40 hP hD
        have e_40 := q_40
        subst e_40
        have hP : va_P D vwCl (wM cI ad 1 n fo ki st we lo ra rch q0 q1 q2 q3 fk fc rd rc rv sh sle sla bg hd tr) H := hP
        have hD : va_D (AW (adM ad)) (wM cI ad 1 n fo ki st we lo ra rch q0 q1 q2 q3 fk fc rd rc rv sh sle sla bg hd tr) := hD
        exact xretM hx hb hr hlk dX3_copy_43 hS hd (by simp [A_copy, c_4, hclj, c_11, hclj2, c_26, hz26]) (fun t ht => by rw [ht]; rw [show S_copy sh sla sle (nI j) i (nI j2) i2 ct = 1 from by simp [S_copy, c_4, hclj, c_11, hclj2, c_26, hz26]]; rw [show ifO (okCopy sh sla sle (nI j) i (nI j2) i2 ct) (cpG (60 * (nI j).toNatClampNeg + i.toNatClampNeg) (60 * (nI j2).toNatClampNeg + i2.toNatClampNeg) ct.toNatClampNeg bg) bg = bg from by simp [okCopy, ifO, cp_pt, c_4, hclj, c_11, hclj2, c_26, hz26]]; exact hP)
      ·
        replace c_26 : ¬ ((szI sh sle) j).toInt < 0 := (not_congr (i32_ltc (b := 0) (by omega))).mp c_26
        have hz26 : sh j = true := szI_ge (sh := sh) (sle := sle) (by omega)
        refine lv_aload_n hx hb dX3_copy_29 rfl (lv_at hl 0 rfl) ?_
        refine va_get (D := D) (ci := 3) (v := .ref (ad 12)) (C := RX3) (T := TX3) (N := 23) hx hb yX3 (fun _ h => h) hown hG.1 hP 0 rfl rfl 18 (by decide) f43 (fun _ h => h) rfl dX3_copy_30 ?_
        refine lv_iload_n hx hb dX3_copy_33 rfl (lv_at hl 3 rfl) ?_
        refine xald hx hb hG hP 12 rfl (j2) rfl (by omega) (by decide) dX3_copy_34 ?_
        refine lv_if_ge (tgt := 44) hx hb dX3_copy_35 (by decide) (fun c_35 => ?_) (fun c_35 => ?_)
        ·
          replace c_35 : 0 ≤ ((szI sh sle) j2).toInt := (i32_gec (b := 0) (by omega)).mp c_35
          have hz35 : sh j2 = true := szI_ge (sh := sh) (sle := sle) (by omega)
          refine lv_aload_n hx hb dX3_copy_44 rfl (lv_at hl 0 rfl) ?_
          refine va_get (D := D) (ci := 3) (v := .ref (ad 13)) (C := RX3) (T := TX3) (N := 23) hx hb yX3 (fun _ h => h) hown hG.1 hP 0 rfl rfl 19 (by decide) f46 (fun _ h => h) rfl dX3_copy_45 ?_
          refine lv_iload_n hx hb dX3_copy_48 rfl (lv_at hl 1 rfl) ?_
          refine xaldN hx hb hG hP 13 rfl (j) rfl (by omega) (by decide) dX3_copy_49 ?_
          refine lv_aload_n hx hb dX3_copy_50 rfl (lv_at hl 0 rfl) ?_
          refine va_get (D := D) (ci := 3) (v := .ref (ad 13)) (C := RX3) (T := TX3) (N := 23) hx hb yX3 (fun _ h => h) hown hG.1 hP 0 rfl rfl 19 (by decide) f46 (fun _ h => h) rfl dX3_copy_51 ?_
          refine lv_iload_n hx hb dX3_copy_54 rfl (lv_at hl 3 rfl) ?_
          refine xaldN hx hb hG hP 13 rfl (j2) rfl (by omega) (by decide) dX3_copy_55 ?_
          refine lv_icmp_eq (tgt := 65) hx hb dX3_copy_56 (by decide) (fun c_56 => ?_) (fun c_56 => ?_)
          ·
            replace c_56 := (nI_eq (a := sla j) (b := sla j2) (by omega) (by omega)).mp c_56
            refine lv_iload_n hx hb dX3_copy_65 rfl (lv_at hl 2 rfl) ?_
            refine lv_iload hx hb dX3_copy_66 (lv_at hl 5 rfl) ?_
            refine lv_i2l (v := ct.toInt64) hx hb dX3_copy_68 rfl ?_
            refine lv_aload_n hx hb dX3_copy_69 rfl (lv_at hl 0 rfl) ?_
            refine va_get (D := D) (ci := 3) (v := .ref (ad 12)) (C := RX3) (T := TX3) (N := 23) hx hb yX3 (fun _ h => h) hown hG.1 hP 0 rfl rfl 18 (by decide) f43 (fun _ h => h) rfl dX3_copy_70 ?_
            refine lv_iload_n hx hb dX3_copy_73 rfl (lv_at hl 1 rfl) ?_
            refine xald hx hb hG hP 12 rfl (j) rfl (by omega) (by decide) dX3_copy_74 ?_
            refine xtop (x' := nI (sle j)) (by exact szI_t (by assumption)) ?_
            refine xrd (va_runS (As := [.int i, .long ct.toInt64, .int (nI (sle j))]) (rest := []) hF (c_X3_isBeyond l D cI cS i ct (sle j) (by omega)) (va_cwS 3 hts gX3_copy_X3_isBeyond rfl rfl rfl hD_X3_isBeyond ⟨Nat.le_of_ble_eq_true rfl, Nat.le_of_ble_eq_true rfl⟩) (PR.pre hG (hP.sub (ws' := []) [] rfl)) rfl rfl hl.1 rfl (lv_room (Nat.le_of_ble_eq_true rfl)) dX3_copy_75 ⟨Nat.le_refl _, Nat.le_refl _⟩) ?_
            refine lv_if_ne (tgt := 98) hx hb dX3_copy_78 (by decide) (fun c_78 => ?_) (fun c_78 => ?_)
            ·
              replace c_78 := bI_n0.mp c_78
              replace c_78 := (by simpa using c_78 : (hldB (sle j) i ct) = false)
              refine lv_aload_n hx hb dX3_copy_98 rfl (lv_at hl 0 rfl) ?_
              refine lv_iconst (v := nI 3) hx hb dX3_copy_99 (by decide) ?_
              refine xmuW (va_runV (As := [.int (nI 3)]) (rest := []) hF (c_X3_failed l D cI cS ad fa n fo ki st we lo ra rch q0 q1 q2 q3 fk fc rd rc rv sh sle sla bg hd tr 3 hnd) (cwV 1 hts gX3_copy_X3_failed rfl rfl rfl hV_X3_failed ⟨Nat.le_of_ble_eq_true rfl, Nat.le_of_ble_eq_true rfl⟩) (PR.preV hG hP (ci := 3) rfl rfl) rfl rfl hl.1 rfl (lv_room (Nat.le_of_ble_eq_true rfl)) dX3_copy_100 ⟨Nat.le_refl _, Nat.le_refl _⟩) hD hS rfl (fun _ => rfl) (fun r_100 u_100 H locs q_100 hP hD hS => ?_)
              try dsimp only at q_100 hP hD
              have e_100 := q_100
              subst e_100
              have hP : va_P D vwCl (wM cI ad 3 n fo ki st we lo ra rch q0 q1 q2 q3 fk fc rd rc rv sh sle sla bg hd tr) H := hP
              have hD : va_D (AW (adM ad)) (wM cI ad 3 n fo ki st we lo ra rch q0 q1 q2 q3 fk fc rd rc rv sh sle sla bg hd tr) := hD
              exact xretM hx hb hr hlk dX3_copy_103 hS hd (by simp [A_copy, c_4, hclj, c_11, hclj2, c_26, hz26, c_35, hz35, c_56, c_78]) (fun t ht => by rw [ht]; rw [show S_copy sh sla sle (nI j) i (nI j2) i2 ct = 3 from by simp [S_copy, c_4, hclj, c_11, hclj2, c_26, hz26, c_35, hz35, c_56, c_78]]; rw [show ifO (okCopy sh sla sle (nI j) i (nI j2) i2 ct) (cpG (60 * (nI j).toNatClampNeg + i.toNatClampNeg) (60 * (nI j2).toNatClampNeg + i2.toNatClampNeg) ct.toNatClampNeg bg) bg = bg from by simp [okCopy, ifO, cp_pt, c_4, hclj, c_11, hclj2, c_26, hz26, c_35, hz35, c_56, c_78]]; exact hP)
            ·
              replace c_78 := bI_0.mp c_78
              replace c_78 := (by simpa using c_78 : (hldB (sle j) i ct) = true)
              obtain ⟨u, cc, hu, rfl, rfl⟩ := hldB_nat c_78
              have hclu := cl8 (j := u) (by omega)
              have hclc := cl8 (j := cc) (by omega)
              refine lv_iload hx hb dX3_copy_81 (lv_at hl 4 rfl) ?_
              refine lv_iload hx hb dX3_copy_83 (lv_at hl 5 rfl) ?_
              refine lv_i2l (v := lN cc) hx hb dX3_copy_85 (nI_l (by omega)) ?_
              refine lv_aload_n hx hb dX3_copy_86 rfl (lv_at hl 0 rfl) ?_
              refine va_get (D := D) (ci := 3) (v := .ref (ad 12)) (C := RX3) (T := TX3) (N := 23) hx hb yX3 (fun _ h => h) hown hG.1 hP 0 rfl rfl 18 (by decide) f43 (fun _ h => h) rfl dX3_copy_87 ?_
              refine lv_iload_n hx hb dX3_copy_90 rfl (lv_at hl 3 rfl) ?_
              refine xald hx hb hG hP 12 rfl (j2) rfl (by omega) (by decide) dX3_copy_91 ?_
              refine xtop (x' := nI (sle j2)) (by exact szI_t (by assumption)) ?_
              refine xrd (va_runS (As := [.int i2, .long (lN cc), .int (nI (sle j2))]) (rest := []) hF (c_X3_isBeyondN l D cI cS i2 cc (sle j2) (by omega) (by first | assumption | omega)) (va_cwS 3 hts gX3_copy_X3_isBeyond rfl rfl rfl hD_X3_isBeyond ⟨Nat.le_of_ble_eq_true rfl, Nat.le_of_ble_eq_true rfl⟩) (PR.pre hG (hP.sub (ws' := []) [] rfl)) rfl rfl hl.1 rfl (lv_room (Nat.le_of_ble_eq_true rfl)) dX3_copy_92 ⟨Nat.le_refl _, Nat.le_refl _⟩) ?_
              refine lv_if_eq (tgt := 104) hx hb dX3_copy_95 (by decide) (fun c_95 => ?_) (fun c_95 => ?_)
              ·
                replace c_95 := bI_0.mp c_95
                replace c_95 := (by simpa using c_95 : (hldB (sle j2) i2 (nI cc)) = true)
                obtain ⟨u2, hu2, rfl⟩ := hldB_nat2 (by omega) c_95
                have hclu2 := cl8 (j := u2) (by omega)
                refine lv_iconst (v := nI 0) hx hb dX3_copy_104 (by decide) ?_
                refine lv_istore (lv' := [(6, .int (nI 0)), (0, .ref (ad 0)), (1, .int (nI j)), (2, .int (nI u)), (3, .int (nI j2)), (4, .int (nI u2)), (5, .int (nI cc))]) hx hb dX3_copy_105 hl (by decide) rfl (fun ls hl => ?_)
                have K107 : ∀ (fuel : Nat) (mm : Nat) (g : Nat → Int32), g = hdF mm (60 * j + u) bg hd → (mm ≤ cc) → (cc - mm) < fuel → ∀ (H : Heap) (locs : List Loc), va_P D vwCl (wM cI ad fa n fo ki st we lo ra rch q0 q1 q2 q3 fk fc rd rc rv sh sle sla bg g tr) H → va_D (AW (adM ad)) (wM cI ad fa n fo ki st we lo ra rch q0 q1 q2 q3 fk fc rd rc rv sh sle sla bg g tr) → va_S (AW (adM ad)) s.heap H locs → ∀ ls : Array Slot, lv_has ls 7 [(6, .int (nI mm)), (0, .ref (ad 0)), (1, .int (nI j)), (2, .int (nI u)), (3, .int (nI j2)), (4, .int (nI u2)), (5, .int (nI cc))] → W p l e ({ frames := 2, cells := 0, slots := 0, locals := 45 }) s m (([.ref (ad 0), .int (nI j), .int (nI u), .int (nI j2), .int (nI u2), .int (nI cc)] : List Value).toArray) below meth c H locs 0 0 (MQ below (va_Qi (fun r (zz : (Nat → Int32)) => r = A_copy sh sla sle (nI j) (nI u) (nI j2) (nI u2) (nI cc)) (fun (zz : (Nat → Int32)) t => va_P D vwCl (wM cI ad (S_copy sh sla sle (nI j) (nI u) (nI j2) (nI u2) (nI cc)) n fo ki st we lo ra rch q0 q1 q2 q3 fk fc rd rc rv sh sle sla (ifO (okCopy sh sla sle (nI j) (nI u) (nI j2) (nI u2) (nI cc)) (cpG (60 * (nI j).toNatClampNeg + (nI u).toNatClampNeg) (60 * (nI j2).toNatClampNeg + (nI u2).toNatClampNeg) (nI cc).toNatClampNeg bg) bg) zz tr) t.heap) (AW (adM ad))) (([.ref (ad 0), .int (nI j), .int (nI u), .int (nI j2), .int (nI u2), .int (nI cc)] : List Value).toArray) s 0 0 (AW (adM ad))) (F0 m 107 ls []) := by
                  intro fuel
                  induction fuel with
                  | zero => intro mm g e_g hm hmu; exact absurd hmu (Nat.not_lt_zero _)
                  | succ fuel ih =>
                    intro mm g e_g hm hmu H locs hP hD hS ls hl
                    subst e_g
                    refine lv_iload hx hb dX3_copy_107 (lv_at hl 0 rfl) ?_
                    refine lv_iload hx hb dX3_copy_109 (lv_at hl 6 rfl) ?_
                    refine lv_icmp_ge (tgt := 141) hx hb dX3_copy_111 (by decide) (fun c_111 => ?_) (fun c_111 => ?_)
                    ·
                      replace c_111 := (nI_leI (a := cc) (b := mm) (by omega) (by omega)).mp c_111
                      have hin : cc = mm := by omega
                      subst hin
                      refine lv_iconst (v := nI 0) hx hb dX3_copy_141 (by decide) ?_
                      refine lv_istore (lv' := [(6, .int (nI 0)), (0, .ref (ad 0)), (1, .int (nI j)), (2, .int (nI u)), (3, .int (nI j2)), (4, .int (nI u2)), (5, .int (nI cc))]) hx hb dX3_copy_142 hl (by decide) rfl (fun ls hl => ?_)
                      have K144 : ∀ (fuel : Nat) (m2 : Nat) (g2 : Nat → Int32), g2 = ptF m2 (60 * j2 + u2) (hdF cc (60 * j + u) bg hd) bg → (m2 ≤ cc) → (cc - m2) < fuel → ∀ (H : Heap) (locs : List Loc), va_P D vwCl (wM cI ad fa n fo ki st we lo ra rch q0 q1 q2 q3 fk fc rd rc rv sh sle sla g2 (hdF cc (60 * j + u) bg hd) tr) H → va_D (AW (adM ad)) (wM cI ad fa n fo ki st we lo ra rch q0 q1 q2 q3 fk fc rd rc rv sh sle sla g2 (hdF cc (60 * j + u) bg hd) tr) → va_S (AW (adM ad)) s.heap H locs → ∀ ls : Array Slot, lv_has ls 7 [(6, .int (nI m2)), (0, .ref (ad 0)), (1, .int (nI j)), (2, .int (nI u)), (3, .int (nI j2)), (4, .int (nI u2)), (5, .int (nI cc))] → W p l e ({ frames := 2, cells := 0, slots := 0, locals := 45 }) s m (([.ref (ad 0), .int (nI j), .int (nI u), .int (nI j2), .int (nI u2), .int (nI cc)] : List Value).toArray) below meth c H locs 0 0 (MQ below (va_Qi (fun r (zz : (Nat → Int32)) => r = A_copy sh sla sle (nI j) (nI u) (nI j2) (nI u2) (nI cc)) (fun (zz : (Nat → Int32)) t => va_P D vwCl (wM cI ad (S_copy sh sla sle (nI j) (nI u) (nI j2) (nI u2) (nI cc)) n fo ki st we lo ra rch q0 q1 q2 q3 fk fc rd rc rv sh sle sla (ifO (okCopy sh sla sle (nI j) (nI u) (nI j2) (nI u2) (nI cc)) (cpG (60 * (nI j).toNatClampNeg + (nI u).toNatClampNeg) (60 * (nI j2).toNatClampNeg + (nI u2).toNatClampNeg) (nI cc).toNatClampNeg bg) bg) zz tr) t.heap) (AW (adM ad))) (([.ref (ad 0), .int (nI j), .int (nI u), .int (nI j2), .int (nI u2), .int (nI cc)] : List Value).toArray) s 0 0 (AW (adM ad))) (F0 m 144 ls []) := by
                        intro fuel
                        induction fuel with
                        | zero => intro m2 g2 e_g2 hm2 hmu; exact absurd hmu (Nat.not_lt_zero _)
                        | succ fuel ih144 =>
                          intro m2 g2 e_g2 hm2 hmu H locs hP hD hS ls hl
                          subst e_g2
                          refine lv_iload hx hb dX3_copy_144 (lv_at hl 0 rfl) ?_
                          refine lv_iload hx hb dX3_copy_146 (lv_at hl 6 rfl) ?_
                          refine lv_icmp_ge (tgt := 179) hx hb dX3_copy_148 (by decide) (fun c_148 => ?_) (fun c_148 => ?_)
                          ·
                            replace c_148 := (nI_leI (a := cc) (b := m2) (by omega) (by omega)).mp c_148
                            have hin : cc = m2 := by omega
                            subst hin
                            refine lv_aload_n hx hb dX3_copy_179 rfl (lv_at hl 1 rfl) ?_
                            refine lv_iload hx hb dX3_copy_180 (lv_at hl 6 rfl) ?_
                            refine xmuW (va_runV (As := [.int (nI cc)]) (rest := []) hF (c_X3_refused l D cI cS ad fa n fo ki st we lo ra rch q0 q1 q2 q3 fk fc rd rc rv sh sle sla (ptF cc (60 * j2 + u2) (hdF cc (60 * j + u) bg hd) bg) (hdF cc (60 * j + u) bg hd) tr (nI cc) hnd) (cwV 1 hts gX3_copy_X3_refused rfl rfl rfl hV_X3_refused ⟨Nat.le_of_ble_eq_true rfl, Nat.le_of_ble_eq_true rfl⟩) (PR.preV hG hP (ci := 3) rfl rfl) rfl rfl hl.1 rfl (lv_room (Nat.le_of_ble_eq_true rfl)) dX3_copy_182 ⟨Nat.le_refl _, Nat.le_refl _⟩) hD hS rfl (fun _ => rfl) (fun r_182 u_182 H locs q_182 hP hD hS => ?_)
                            try dsimp only at q_182 hP hD
                            have e_182 := q_182
                            subst e_182
                            have hP : va_P D vwCl (wM cI ad 0 n fo ki st we lo ra rch q0 q1 q2 q3 fk fc rd rc rv sh sle sla (ptF cc (60 * j2 + u2) (hdF cc (60 * j + u) bg hd) bg) (hdF cc (60 * j + u) bg hd) tr) H := hP
                            have hD : va_D (AW (adM ad)) (wM cI ad 0 n fo ki st we lo ra rch q0 q1 q2 q3 fk fc rd rc rv sh sle sla (ptF cc (60 * j2 + u2) (hdF cc (60 * j + u) bg hd) bg) (hdF cc (60 * j + u) bg hd) tr) := hD
                            exact xretM hx hb hr hlk dX3_copy_185 hS (hdF cc (60 * j + u) bg hd) (by simp [A_copy, c_4, hclj, c_11, hclj2, c_26, hz26, c_35, hz35, c_56, c_78, hclu, hclc, c_95, hclu2, c_111, c_148]) (fun t ht => by rw [ht]; rw [show S_copy sh sla sle (nI j) (nI u) (nI j2) (nI u2) (nI cc) = 0 from by simp [S_copy, c_4, hclj, c_11, hclj2, c_26, hz26, c_35, hz35, c_56, c_78, hclu, hclc, c_95, hclu2, c_111, c_148]]; rw [show ifO (okCopy sh sla sle (nI j) (nI u) (nI j2) (nI u2) (nI cc)) (cpG (60 * (nI j).toNatClampNeg + (nI u).toNatClampNeg) (60 * (nI j2).toNatClampNeg + (nI u2).toNatClampNeg) (nI cc).toNatClampNeg bg) bg = (ptF cc (60 * j2 + u2) (hdF cc (60 * j + u) bg hd) bg) from by simp [okCopy, ifO, cp_pt, c_4, hclj, c_11, hclj2, c_26, hz26, c_35, hz35, c_56, c_78, hclu, hclc, c_95, hclu2, c_111, c_148]]; exact hP)
                          ·
                            replace c_148 := (not_congr (nI_leI (a := cc) (b := m2) (by omega) (by omega))).mp c_148
                            refine lv_aload_n hx hb dX3_copy_151 rfl (lv_at hl 1 rfl) ?_
                            refine va_get (D := D) (ci := 3) (v := .ref (ad 14)) (C := RX3) (T := TX3) (N := 23) hx hb yX3 (fun _ h => h) hown hG.1 hP 0 rfl rfl 20 (by decide) f49 (fun _ h => h) rfl dX3_copy_152 ?_
                            refine lv_bipush (v := nI 60) hx hb dX3_copy_155 (by decide) ?_
                            refine lv_iload_n hx hb dX3_copy_157 rfl (lv_at hl 4 rfl) ?_
                            refine xmulN hx hb dX3_copy_158 ?_
                            refine lv_iload hx hb dX3_copy_159 (lv_at hl 5 rfl) ?_
                            refine xaddN hx hb dX3_copy_161 ?_
                            refine lv_iload hx hb dX3_copy_162 (lv_at hl 0 rfl) ?_
                            refine xaddN hx hb dX3_copy_164 ?_
                            refine lv_aload_n hx hb dX3_copy_165 rfl (lv_at hl 1 rfl) ?_
                            refine va_get (D := D) (ci := 3) (v := .ref (ad 15)) (C := RX3) (T := TX3) (N := 23) hx hb yX3 (fun _ h => h) hown hG.1 hP 0 rfl rfl 21 (by decide) f52 (fun _ h => h) rfl dX3_copy_166 ?_
                            refine lv_iload hx hb dX3_copy_169 (lv_at hl 0 rfl) ?_
                            refine xald hx hb hG hP 15 rfl (m2) rfl (by omega) (by decide) dX3_copy_171 ?_
                            refine xast hx hb hG hP hD hS 14 rfl (60 * j2 + u2 + m2) rfl (by omega) (by decide) dX3_copy_172 (fun H locs hP hD hS => ?_)
                            have hP : va_P D vwCl (wM cI ad fa n fo ki st we lo ra rch q0 q1 q2 q3 fk fc rd rc rv sh sle sla (upd (ptF m2 (60 * j2 + u2) (hdF cc (60 * j + u) bg hd) bg) (60 * j2 + u2 + m2) ((hdF cc (60 * j + u) bg hd) m2)) (hdF cc (60 * j + u) bg hd) tr) H := hP
                            have hD : va_D (AW (adM ad)) (wM cI ad fa n fo ki st we lo ra rch q0 q1 q2 q3 fk fc rd rc rv sh sle sla (upd (ptF m2 (60 * j2 + u2) (hdF cc (60 * j + u) bg hd) bg) (60 * j2 + u2 + m2) ((hdF cc (60 * j + u) bg hd) m2)) (hdF cc (60 * j + u) bg hd) tr) := hD
                            refine lv_iinc (v := nI (m2 + 1)) (lv' := [(6, .int (nI (m2 + 1))), (0, .ref (ad 0)), (1, .int (nI j)), (2, .int (nI u)), (3, .int (nI j2)), (4, .int (nI u2)), (5, .int (nI cc))]) hx hb dX3_copy_173 hl (k := 0) rfl xinc1 (by decide) rfl (fun ls hl => ?_)
                            refine lv_goto (tgt := 144) hx hb dX3_copy_176 (by decide) ?_
                            exact ih144 (m2 + 1) (upd (ptF m2 (60 * j2 + u2) (hdF cc (60 * j + u) bg hd) bg) (60 * j2 + u2 + m2) ((hdF cc (60 * j + u) bg hd) m2)) (by exact ptF_s) (by omega) (by omega) _ _ hP hD hS ls (lv_sub hl [0, 1, 2, 3, 4, 5, 6] rfl)
                      exact K144 _ 0 bg (by first | exact ptF_0.symm | omega) (by first | exact ptF_0.symm | omega) (Nat.lt_succ_self _) _ _ hP hD hS ls (lv_sub hl [0, 1, 2, 3, 4, 5, 6] rfl)
                    ·
                      replace c_111 := (not_congr (nI_leI (a := cc) (b := mm) (by omega) (by omega))).mp c_111
                      refine lv_aload_n hx hb dX3_copy_114 rfl (lv_at hl 1 rfl) ?_
                      refine va_get (D := D) (ci := 3) (v := .ref (ad 15)) (C := RX3) (T := TX3) (N := 23) hx hb yX3 (fun _ h => h) hown hG.1 hP 0 rfl rfl 21 (by decide) f52 (fun _ h => h) rfl dX3_copy_115 ?_
                      refine lv_iload hx hb dX3_copy_118 (lv_at hl 0 rfl) ?_
                      refine lv_aload_n hx hb dX3_copy_120 rfl (lv_at hl 1 rfl) ?_
                      refine va_get (D := D) (ci := 3) (v := .ref (ad 14)) (C := RX3) (T := TX3) (N := 23) hx hb yX3 (fun _ h => h) hown hG.1 hP 0 rfl rfl 20 (by decide) f49 (fun _ h => h) rfl dX3_copy_121 ?_
                      refine lv_bipush (v := nI 60) hx hb dX3_copy_124 (by decide) ?_
                      refine lv_iload_n hx hb dX3_copy_126 rfl (lv_at hl 2 rfl) ?_
                      refine xmulN hx hb dX3_copy_127 ?_
                      refine lv_iload_n hx hb dX3_copy_128 rfl (lv_at hl 3 rfl) ?_
                      refine xaddN hx hb dX3_copy_129 ?_
                      refine lv_iload hx hb dX3_copy_130 (lv_at hl 0 rfl) ?_
                      refine xaddN hx hb dX3_copy_132 ?_
                      refine xald hx hb hG hP 14 rfl (60 * j + u + mm) rfl (by omega) (by decide) dX3_copy_133 ?_
                      refine xast hx hb hG hP hD hS 15 rfl (mm) rfl (by omega) (by decide) dX3_copy_134 (fun H locs hP hD hS => ?_)
                      have hP : va_P D vwCl (wM cI ad fa n fo ki st we lo ra rch q0 q1 q2 q3 fk fc rd rc rv sh sle sla bg (upd (hdF mm (60 * j + u) bg hd) mm (bg (60 * j + u + mm))) tr) H := hP
                      have hD : va_D (AW (adM ad)) (wM cI ad fa n fo ki st we lo ra rch q0 q1 q2 q3 fk fc rd rc rv sh sle sla bg (upd (hdF mm (60 * j + u) bg hd) mm (bg (60 * j + u + mm))) tr) := hD
                      refine lv_iinc (v := nI (mm + 1)) (lv' := [(6, .int (nI (mm + 1))), (0, .ref (ad 0)), (1, .int (nI j)), (2, .int (nI u)), (3, .int (nI j2)), (4, .int (nI u2)), (5, .int (nI cc))]) hx hb dX3_copy_135 hl (k := 0) rfl xinc1 (by decide) rfl (fun ls hl => ?_)
                      refine lv_goto (tgt := 107) hx hb dX3_copy_138 (by decide) ?_
                      exact ih (mm + 1) (upd (hdF mm (60 * j + u) bg hd) mm (bg (60 * j + u + mm))) (by exact hdF_s) (by omega) (by omega) _ _ hP hD hS ls (lv_sub hl [0, 1, 2, 3, 4, 5, 6] rfl)
                exact K107 _ 0 hd (by first | exact hdF_0.symm | omega) (by first | exact hdF_0.symm | omega) (Nat.lt_succ_self _) _ _ hP hD hS ls (lv_sub hl [0, 1, 2, 3, 4, 5, 6] rfl)
              ·
                replace c_95 := bI_n0.mp c_95
                replace c_95 := (by simpa using c_95 : (hldB (sle j2) i2 (nI cc)) = false)
                refine lv_aload_n hx hb dX3_copy_98 rfl (lv_at hl 0 rfl) ?_
                refine lv_iconst (v := nI 3) hx hb dX3_copy_99 (by decide) ?_
                refine xmuW (va_runV (As := [.int (nI 3)]) (rest := []) hF (c_X3_failed l D cI cS ad fa n fo ki st we lo ra rch q0 q1 q2 q3 fk fc rd rc rv sh sle sla bg hd tr 3 hnd) (cwV 1 hts gX3_copy_X3_failed rfl rfl rfl hV_X3_failed ⟨Nat.le_of_ble_eq_true rfl, Nat.le_of_ble_eq_true rfl⟩) (PR.preV hG hP (ci := 3) rfl rfl) rfl rfl hl.1 rfl (lv_room (Nat.le_of_ble_eq_true rfl)) dX3_copy_100 ⟨Nat.le_refl _, Nat.le_refl _⟩) hD hS rfl (fun _ => rfl) (fun r_100 u_100 H locs q_100 hP hD hS => ?_)
                try dsimp only at q_100 hP hD
                have e_100 := q_100
                subst e_100
                have hP : va_P D vwCl (wM cI ad 3 n fo ki st we lo ra rch q0 q1 q2 q3 fk fc rd rc rv sh sle sla bg hd tr) H := hP
                have hD : va_D (AW (adM ad)) (wM cI ad 3 n fo ki st we lo ra rch q0 q1 q2 q3 fk fc rd rc rv sh sle sla bg hd tr) := hD
                exact xretM hx hb hr hlk dX3_copy_103 hS hd (by simp [A_copy, c_4, hclj, c_11, hclj2, c_26, hz26, c_35, hz35, c_56, c_78, hclu, hclc, c_95]) (fun t ht => by rw [ht]; rw [show S_copy sh sla sle (nI j) (nI u) (nI j2) i2 (nI cc) = 3 from by simp [S_copy, c_4, hclj, c_11, hclj2, c_26, hz26, c_35, hz35, c_56, c_78, hclu, hclc, c_95]]; rw [show ifO (okCopy sh sla sle (nI j) (nI u) (nI j2) i2 (nI cc)) (cpG (60 * (nI j).toNatClampNeg + (nI u).toNatClampNeg) (60 * (nI j2).toNatClampNeg + i2.toNatClampNeg) (nI cc).toNatClampNeg bg) bg = bg from by simp [okCopy, ifO, cp_pt, c_4, hclj, c_11, hclj2, c_26, hz26, c_35, hz35, c_56, c_78, hclu, hclc, c_95]]; exact hP)
          ·
            replace c_56 := (not_congr (nI_eq (a := sla j) (b := sla j2) (by omega) (by omega))).mp c_56
            refine lv_aload_n hx hb dX3_copy_59 rfl (lv_at hl 0 rfl) ?_
            refine lv_iconst (v := nI 2) hx hb dX3_copy_60 (by decide) ?_
            refine xmuW (va_runV (As := [.int (nI 2)]) (rest := []) hF (c_X3_failed l D cI cS ad fa n fo ki st we lo ra rch q0 q1 q2 q3 fk fc rd rc rv sh sle sla bg hd tr 2 hnd) (cwV 1 hts gX3_copy_X3_failed rfl rfl rfl hV_X3_failed ⟨Nat.le_of_ble_eq_true rfl, Nat.le_of_ble_eq_true rfl⟩) (PR.preV hG hP (ci := 3) rfl rfl) rfl rfl hl.1 rfl (lv_room (Nat.le_of_ble_eq_true rfl)) dX3_copy_61 ⟨Nat.le_refl _, Nat.le_refl _⟩) hD hS rfl (fun _ => rfl) (fun r_61 u_61 H locs q_61 hP hD hS => ?_)
            try dsimp only at q_61 hP hD
            have e_61 := q_61
            subst e_61
            have hP : va_P D vwCl (wM cI ad 2 n fo ki st we lo ra rch q0 q1 q2 q3 fk fc rd rc rv sh sle sla bg hd tr) H := hP
            have hD : va_D (AW (adM ad)) (wM cI ad 2 n fo ki st we lo ra rch q0 q1 q2 q3 fk fc rd rc rv sh sle sla bg hd tr) := hD
            exact xretM hx hb hr hlk dX3_copy_64 hS hd (by simp [A_copy, c_4, hclj, c_11, hclj2, c_26, hz26, c_35, hz35, c_56]) (fun t ht => by rw [ht]; rw [show S_copy sh sla sle (nI j) i (nI j2) i2 ct = 2 from by simp [S_copy, c_4, hclj, c_11, hclj2, c_26, hz26, c_35, hz35, c_56]]; rw [show ifO (okCopy sh sla sle (nI j) i (nI j2) i2 ct) (cpG (60 * (nI j).toNatClampNeg + i.toNatClampNeg) (60 * (nI j2).toNatClampNeg + i2.toNatClampNeg) ct.toNatClampNeg bg) bg = bg from by simp [okCopy, ifO, cp_pt, c_4, hclj, c_11, hclj2, c_26, hz26, c_35, hz35, c_56]]; exact hP)
        ·
          replace c_35 : ¬ 0 ≤ ((szI sh sle) j2).toInt := (not_congr (i32_gec (b := 0) (by omega))).mp c_35
          have hz35 : sh j2 = false := szI_lt (sh := sh) (sle := sle) (by omega) (hsle j2)
          refine lv_aload_n hx hb dX3_copy_38 rfl (lv_at hl 0 rfl) ?_
          refine lv_iconst (v := nI 1) hx hb dX3_copy_39 (by decide) ?_
          refine xmuW (va_runV (As := [.int (nI 1)]) (rest := []) hF (c_X3_failed l D cI cS ad fa n fo ki st we lo ra rch q0 q1 q2 q3 fk fc rd rc rv sh sle sla bg hd tr 1 hnd) (cwV 1 hts gX3_copy_X3_failed rfl rfl rfl hV_X3_failed ⟨Nat.le_of_ble_eq_true rfl, Nat.le_of_ble_eq_true rfl⟩) (PR.preV hG hP (ci := 3) rfl rfl) rfl rfl hl.1 rfl (lv_room (Nat.le_of_ble_eq_true rfl)) dX3_copy_40 ⟨Nat.le_refl _, Nat.le_refl _⟩) hD hS rfl (fun _ => rfl) (fun r_40 u_40 H locs q_40 hP hD hS => ?_)
          try dsimp only at q_40 hP hD
          have e_40 := q_40
          subst e_40
          have hP : va_P D vwCl (wM cI ad 1 n fo ki st we lo ra rch q0 q1 q2 q3 fk fc rd rc rv sh sle sla bg hd tr) H := hP
          have hD : va_D (AW (adM ad)) (wM cI ad 1 n fo ki st we lo ra rch q0 q1 q2 q3 fk fc rd rc rv sh sle sla bg hd tr) := hD
          exact xretM hx hb hr hlk dX3_copy_43 hS hd (by simp [A_copy, c_4, hclj, c_11, hclj2, c_26, hz26, c_35, hz35]) (fun t ht => by rw [ht]; rw [show S_copy sh sla sle (nI j) i (nI j2) i2 ct = 1 from by simp [S_copy, c_4, hclj, c_11, hclj2, c_26, hz26, c_35, hz35]]; rw [show ifO (okCopy sh sla sle (nI j) i (nI j2) i2 ct) (cpG (60 * (nI j).toNatClampNeg + i.toNatClampNeg) (60 * (nI j2).toNatClampNeg + i2.toNatClampNeg) ct.toNatClampNeg bg) bg = bg from by simp [okCopy, ifO, cp_pt, c_4, hclj, c_11, hclj2, c_26, hz26, c_35, hz35]]; exact hP)
    ·
      replace c_11 := bI_n0.mp c_11
      replace c_11 := (by simpa using c_11 : (rgB 0 3 k2) = false)
      refine lv_aload_n hx hb dX3_copy_14 rfl (lv_at hl 0 rfl) ?_
      refine lv_iconst (v := (-1)) hx hb dX3_copy_15 (by decide) ?_
      refine xmuW (va_runV (As := [.int (-1)]) (rest := []) hF (c_X3_refused l D cI cS ad fa n fo ki st we lo ra rch q0 q1 q2 q3 fk fc rd rc rv sh sle sla bg hd tr (-1) hnd) (cwV 1 hts gX3_copy_X3_refused rfl rfl rfl hV_X3_refused ⟨Nat.le_of_ble_eq_true rfl, Nat.le_of_ble_eq_true rfl⟩) (PR.preV hG hP (ci := 3) rfl rfl) rfl rfl hl.1 rfl (lv_room (Nat.le_of_ble_eq_true rfl)) dX3_copy_16 ⟨Nat.le_refl _, Nat.le_refl _⟩) hD hS rfl (fun _ => rfl) (fun r_16 u_16 H locs q_16 hP hD hS => ?_)
      try dsimp only at q_16 hP hD
      have e_16 := q_16
      subst e_16
      have hP : va_P D vwCl (wM cI ad 0 n fo ki st we lo ra rch q0 q1 q2 q3 fk fc rd rc rv sh sle sla bg hd tr) H := hP
      have hD : va_D (AW (adM ad)) (wM cI ad 0 n fo ki st we lo ra rch q0 q1 q2 q3 fk fc rd rc rv sh sle sla bg hd tr) := hD
      exact xretM hx hb hr hlk dX3_copy_19 hS hd (by simp [A_copy, c_4, hclj, c_11]) (fun t ht => by rw [ht]; rw [show S_copy sh sla sle (nI j) i k2 i2 ct = 0 from by simp [S_copy, c_4, hclj, c_11]]; rw [show ifO (okCopy sh sla sle (nI j) i k2 i2 ct) (cpG (60 * (nI j).toNatClampNeg + i.toNatClampNeg) (60 * k2.toNatClampNeg + i2.toNatClampNeg) ct.toNatClampNeg bg) bg = bg from by simp [okCopy, ifO, cp_pt, c_4, hclj, c_11]]; exact hP)

set_option maxHeartbeats 4000000 in
set_option maxRecDepth 100000 in
theorem c_X3_traced (l : Launch) (D : va_G) (cI cS : ClassId) (ad : Nat → Nat) (fa : Nat) (n : Nat) (fo : Nat) (ki : Nat → Nat) (st : Nat → Nat) (we : Nat → Nat) (lo : Nat → Nat) (ra : Nat) (rch : Nat) (q0 : Nat → Int32) (q1 : Nat → Int32) (q2 : Nat → Int32) (q3 : Nat → Int32) (fk : Nat) (fc : Nat → Nat) (rd : Nat) (rc : Nat → Nat) (rv : Nat → Nat) (sh : Nat → Bool) (sle : Nat → Nat) (sla : Nat → Nat) (bg : Nat → Int32) (hd : Nat → Int32) (tr : Int32) (b : Nat) (hnd : nd (adM ad)) : Met l yX3_traced wsX3_traced ({ frames := 0, cells := 0, slots := 0, locals := 0 }) (PR D cI cS [.ref (ad 0), .int (nI b)] (wM cI ad fa n fo ki st we lo ra rch q0 q1 q2 q3 fk fc rd rc rv sh sle sla bg hd tr)) (va_Qv (fun (zz : Unit) => True) (fun (zz : Unit) t => va_P D vwCl (wM cI ad fa n fo ki st we lo ra rch q0 q1 q2 q3 fk fc rd rc rv sh sle sla bg hd (tr1 tr b)) t.heap) (AW (adM ad))) 0 0 (AW (adM ad)) := by
  refine startM (by decide) rfl (Nat.le_of_ble_eq_true rfl) hnd rfl ?_
  intro p e s m below meth c hx hb hr hts hown hlk hml hG hP hD hS ls hl
  have hl : lv_has ls 2 [(0, .ref (ad 0)), (1, .int (nI b))] := hl
  have f230 := hts (.fieldLink RX3 230 "ChairBallotModel" "traceNow" "I") (by decide +kernel)
  have yX3 : ∀ w ∈ u_ws RX3 TX3 23, w.before _ s = true := fun w h => hts w ((by decide +kernel : ∀ w ∈ wsX30, w ∈ wsX3_traced) w h)
  have hF : CallFix p m c cX3_traced 2 s _ wsX3_traced RX3 := ⟨hx, hb, hml, hown, hts⟩
  refine lv_aload_n hx hb dX3_traced_0 rfl (lv_at hl 0 rfl) ?_
  refine lv_bipush (v := nI 31) hx hb dX3_traced_1 (by decide) ?_
  refine lv_aload_n hx hb dX3_traced_3 rfl (lv_at hl 0 rfl) ?_
  refine va_get (D := D) (ci := 3) (v := .int tr) (C := RX3) (T := TX3) (N := 23) hx hb yX3 (fun _ h => h) hown hG.1 hP 0 rfl rfl 22 (by decide) f230 (fun _ h => h) rfl dX3_traced_4 ?_
  refine lv_imul hx hb dX3_traced_7 ?_
  refine lv_iload_n hx hb dX3_traced_8 rfl (lv_at hl 1 rfl) ?_
  refine lv_iadd hx hb dX3_traced_9 ?_
  refine va_put (D := D) (ci := 3) (v := .int (((nI 31) * tr) + (nI b))) (ty := .int) (C := RX3) (T := TX3) (N := 23) hx hb yX3 (fun _ h => h) tyX3 tyX3_ok nmX3 hown hG.1 hP hD hS 0 rfl rfl 22 (by decide) f230 (fun _ h => h) rfl (by decide +kernel) rfl rfl (Nat.le_of_ble_eq_true rfl) dX3_traced_10 (fun H locs hP hD hS => ?_)
  have hP : va_P D vwCl (wM cI ad fa n fo ki st we lo ra rch q0 q1 q2 q3 fk fc rd rc rv sh sle sla bg hd (((nI 31) * tr) + (nI b))) H := hP
  have hD : va_D (AW (adM ad)) (wM cI ad fa n fo ki st we lo ra rch q0 q1 q2 q3 fk fc rd rc rv sh sle sla bg hd (((nI 31) * tr) + (nI b))) := hD
  exact xretMv hx hb hr hlk dX3_traced_13 hS () (by trivial) (fun t ht => by rw [ht]; rw [show tr1 tr b = (((nI 31) * tr) + (nI b)) from by simp only [tr1]]; exact hP)

set_option maxHeartbeats 4000000 in
set_option maxRecDepth 100000 in
theorem c_X3_tell (l : Launch) (D : va_G) (cI cS : ClassId) (ad : Nat → Nat) (fa : Nat) (n : Nat) (fo : Nat) (ki : Nat → Nat) (st : Nat → Nat) (we : Nat → Nat) (lo : Nat → Nat) (ra : Nat) (rch : Nat) (q0 : Nat → Int32) (q1 : Nat → Int32) (q2 : Nat → Int32) (q3 : Nat → Int32) (fk : Nat) (fc : Nat → Nat) (rd : Nat) (rc : Nat → Nat) (rv : Nat → Nat) (sh : Nat → Bool) (sle : Nat → Nat) (sla : Nat → Nat) (bg : Nat → Int32) (hd : Nat → Int32) (tr : Int32) (k : Int32) (hnd : nd (adM ad)) (hn : n ≤ 8) (hki : ∀ j, ki j ≤ 2) (hwe : ∀ j, we j ≤ 9) : Met l yX3_tell wsX3_tell ({ frames := 2, cells := 0, slots := 0, locals := 46 }) (PR D cI cS [.ref (ad 0), .int k] (wM cI ad fa n fo ki st we lo ra rch q0 q1 q2 q3 fk fc rd rc rv sh sle sla bg hd tr)) (va_Qi (fun r (zz : Unit) => r = A_tell n ki we k) (fun (zz : Unit) t => va_P D vwCl (wM cI ad fa n fo ki st we lo ra rch q0 q1 q2 q3 fk fc rd rc rv sh sle sla bg hd (S_tell n ki tr k)) t.heap) (AW (adM ad))) 0 0 (AW (adM ad)) := by
  refine startM (by decide) rfl (Nat.le_of_ble_eq_true rfl) hnd rfl ?_
  intro p e s m below meth c hx hb hr hts hown hlk hml hG hP hD hS ls hl
  have hl : lv_has ls 4 [(0, .ref (ad 0)), (1, .int k)] := hl
  have f7 := hts (.fieldLink RX3 7 "ChairBallotModel" "kindOf" "[I") (by decide +kernel)
  have f16 := hts (.fieldLink RX3 16 "ChairBallotModel" "weightOf" "[I") (by decide +kernel)
  have yX3 : ∀ w ∈ u_ws RX3 TX3 23, w.before _ s = true := fun w h => hts w ((by decide +kernel : ∀ w ∈ wsX30, w ∈ wsX3_tell) w h)
  have hF : CallFix p m c cX3_tell 4 s _ wsX3_tell RX3 := ⟨hx, hb, hml, hown, hts⟩
  refine lv_aload_n hx hb dX3_tell_0 rfl (lv_at hl 0 rfl) ?_
  refine lv_iload_n hx hb dX3_tell_1 rfl (lv_at hl 1 rfl) ?_
  refine xrd (va_runV (As := [.int k]) (rest := []) hF (c_X3_noChair l D cI cS ad fa n fo ki st we lo ra rch q0 q1 q2 q3 fk fc rd rc rv sh sle sla bg hd tr k (by first | assumption | omega)) (cwV 1 hts gX3_tell_X3_noChair rfl rfl rfl hV_X3_noChair ⟨Nat.le_of_ble_eq_true rfl, Nat.le_of_ble_eq_true rfl⟩) (PR.preV hG hP (ci := 3) rfl rfl) rfl rfl hl.1 rfl (lv_room (Nat.le_of_ble_eq_true rfl)) dX3_tell_2 ⟨Nat.le_refl _, Nat.le_refl _⟩) ?_
  refine lv_if_eq (tgt := 10) hx hb dX3_tell_5 (by decide) (fun c_5 => ?_) (fun c_5 => ?_)
  ·
    replace c_5 := bI_0.mp c_5
    replace c_5 := (by simpa using c_5 : (hasB n k) = true)
    obtain ⟨j, hj, rfl⟩ := hasB_t c_5
    have hclj := cl8 (j := j) (by omega)
    have hkj := hki j
    have hwj := hwe j
    refine lv_aload_n hx hb dX3_tell_10 rfl (lv_at hl 0 rfl) ?_
    refine va_get (D := D) (ci := 3) (v := .ref (ad 1)) (C := RX3) (T := TX3) (N := 23) hx hb yX3 (fun _ h => h) hown hG.1 hP 0 rfl rfl 3 (by decide) f7 (fun _ h => h) rfl dX3_tell_11 ?_
    refine lv_iload_n hx hb dX3_tell_14 rfl (lv_at hl 1 rfl) ?_
    refine xaldN hx hb hG hP 1 rfl (j) rfl (by omega) (by decide) dX3_tell_15 ?_
    refine lv_istore_n (lv' := [(2, .int (nI (ki j))), (0, .ref (ad 0)), (1, .int (nI j))]) hx hb dX3_tell_16 rfl hl (by decide) rfl (fun ls hl => ?_)
    refine lv_iload_n hx hb dX3_tell_17 rfl (lv_at hl 0 rfl) ?_
    refine lv_iconst (v := nI 2) hx hb dX3_tell_18 (by decide) ?_
    refine lv_icmp_ne (tgt := 27) hx hb dX3_tell_19 (by decide) (fun c_19 => ?_) (fun c_19 => ?_)
    ·
      replace c_19 := (not_congr (nI_eq (a := ki j) (b := 2) (by omega) (by omega))).mp c_19
      refine lv_iload_n hx hb dX3_tell_27 rfl (lv_at hl 0 rfl) ?_
      refine lv_if_le (tgt := 36) hx hb dX3_tell_28 (by decide) (fun c_28 => ?_) (fun c_28 => ?_)
      ·
        replace c_28 := (nI_leI (a := ki j) (b := 0) (by omega) (by omega)).mp c_28
        refine lv_aload_n hx hb dX3_tell_36 rfl (lv_at hl 1 rfl) ?_
        refine lv_iconst (v := nI 1) hx hb dX3_tell_37 (by decide) ?_
        refine xmuWv (va_runV (As := [.int (nI 1)]) (rest := []) hF (c_X3_traced l D cI cS ad fa n fo ki st we lo ra rch q0 q1 q2 q3 fk fc rd rc rv sh sle sla bg hd tr 1 hnd) (cwV 1 hts gX3_tell_X3_traced rfl rfl rfl hV_X3_traced ⟨Nat.le_of_ble_eq_true rfl, Nat.le_of_ble_eq_true rfl⟩) (PR.preV hG hP (ci := 3) rfl rfl) rfl rfl hl.1 rfl (lv_room (Nat.le_of_ble_eq_true rfl)) dX3_tell_38 ⟨Nat.le_refl _, Nat.le_refl _⟩) hD hS rfl (fun _ => rfl) (fun u_38 H locs q_38 hP hD hS => ?_)
        try dsimp only at q_38 hP hD
        have hP : va_P D vwCl (wM cI ad fa n fo ki st we lo ra rch q0 q1 q2 q3 fk fc rd rc rv sh sle sla bg hd (tr1 tr 1)) H := hP
        have hD : va_D (AW (adM ad)) (wM cI ad fa n fo ki st we lo ra rch q0 q1 q2 q3 fk fc rd rc rv sh sle sla bg hd (tr1 tr 1)) := hD
        refine lv_iload_n hx hb dX3_tell_41 rfl (lv_at hl 0 rfl) ?_
        refine lv_iconst (v := nI 2) hx hb dX3_tell_42 (by decide) ?_
        refine lv_icmp_ne (tgt := 51) hx hb dX3_tell_43 (by decide) (fun c_43 => ?_) (fun c_43 => ?_)
        ·
          replace c_43 := (not_congr (nI_eq (a := ki j) (b := 2) (by omega) (by omega))).mp c_43
          refine lv_aload_n hx hb dX3_tell_51 rfl (lv_at hl 1 rfl) ?_
          refine va_get (D := D) (ci := 3) (v := .ref (ad 3)) (C := RX3) (T := TX3) (N := 23) hx hb yX3 (fun _ h => h) hown hG.1 hP 0 rfl rfl 5 (by decide) f16 (fun _ h => h) rfl dX3_tell_52 ?_
          refine lv_iload_n hx hb dX3_tell_55 rfl (lv_at hl 2 rfl) ?_
          refine xaldN hx hb hG hP 3 rfl (j) rfl (by omega) (by decide) dX3_tell_56 ?_
          refine lv_istore_n (lv' := [(3, .int (nI (we j))), (2, .int (nI (ki j))), (0, .ref (ad 0)), (1, .int (nI j))]) hx hb dX3_tell_57 rfl hl (by decide) rfl (fun ls hl => ?_)
          refine lv_iload_n hx hb dX3_tell_58 rfl (lv_at hl 1 rfl) ?_
          refine lv_if_ne (tgt := 66) hx hb dX3_tell_59 (by decide) (fun c_59 => ?_) (fun c_59 => ?_)
          ·
            replace c_59 := (not_congr (nI_eq (a := ki j) (b := 0) (by omega) (by omega))).mp c_59
            refine lv_iload_n hx hb dX3_tell_66 rfl (lv_at hl 1 rfl) ?_
            refine lv_iconst (v := nI 1) hx hb dX3_tell_67 (by decide) ?_
            refine lv_icmp_ne (tgt := 78) hx hb dX3_tell_68 (by decide) (fun c_68 => ?_) (fun c_68 => ?_)
            ·
              replace c_68 := (not_congr (nI_eq (a := ki j) (b := 1) (by omega) (by omega))).mp c_68
              refine lv_iconst (v := nI 2) hx hb dX3_tell_78 (by decide) ?_
              refine lv_iload_n hx hb dX3_tell_79 rfl (lv_at hl 0 rfl) ?_
              refine xmulN hx hb dX3_tell_80 ?_
              refine lv_bipush (v := nI 100) hx hb dX3_tell_81 (by decide) ?_
              refine xaddN hx hb dX3_tell_83 ?_
              exact xretM hx hb hr hlk dX3_tell_84 hS () (by first | (simp [A_tell, tellV, c_5, hclj, c_19, c_28, c_43, c_59, c_68]; done) | (exfalso; omega) | (simp [A_tell, tellV, c_5, hclj, c_19, c_28, c_43, c_59, c_68]; congr 1; omega)) (fun t ht => by rw [ht]; rw [show S_tell n ki tr (nI j) = (tr1 tr 1) from by first | (simp [S_tell, tellT, c_5, hclj, c_19, c_28, c_43, c_59, c_68]; done) | (exfalso; omega)]; exact hP)
            ·
              replace c_68 := (nI_eq (a := ki j) (b := 1) (by omega) (by omega)).mp c_68
              refine lv_iload_n hx hb dX3_tell_71 rfl (lv_at hl 0 rfl) ?_
              refine lv_bipush (v := nI 100) hx hb dX3_tell_72 (by decide) ?_
              refine xaddN hx hb dX3_tell_74 ?_
              refine lv_goto (tgt := 84) hx hb dX3_tell_75 (by decide) ?_
              exact xretM hx hb hr hlk dX3_tell_84 hS () (by first | (simp [A_tell, tellV, c_5, hclj, c_19, c_28, c_43, c_59, c_68]; done) | (exfalso; omega) | (simp [A_tell, tellV, c_5, hclj, c_19, c_28, c_43, c_59, c_68]; congr 1; omega)) (fun t ht => by rw [ht]; rw [show S_tell n ki tr (nI j) = (tr1 tr 1) from by first | (simp [S_tell, tellT, c_5, hclj, c_19, c_28, c_43, c_59, c_68]; done) | (exfalso; omega)]; exact hP)
          ·
            replace c_59 := (nI_eq (a := ki j) (b := 0) (by omega) (by omega)).mp c_59
            refine lv_iload_n hx hb dX3_tell_62 rfl (lv_at hl 0 rfl) ?_
            refine lv_goto (tgt := 84) hx hb dX3_tell_63 (by decide) ?_
            exact xretM hx hb hr hlk dX3_tell_84 hS () (by first | (simp [A_tell, tellV, c_5, hclj, c_19, c_28, c_43, c_59]; done) | (exfalso; omega) | (simp [A_tell, tellV, c_5, hclj, c_19, c_28, c_43, c_59]; congr 1; omega)) (fun t ht => by rw [ht]; rw [show S_tell n ki tr (nI j) = (tr1 tr 1) from by first | (simp [S_tell, tellT, c_5, hclj, c_19, c_28, c_43, c_59]; done) | (exfalso; omega)]; exact hP)
        ·
          replace c_43 := (nI_eq (a := ki j) (b := 2) (by omega) (by omega)).mp c_43
          refine lv_aload_n hx hb dX3_tell_46 rfl (lv_at hl 1 rfl) ?_
          refine lv_iconst (v := nI 1) hx hb dX3_tell_47 (by decide) ?_
          refine xmuWv (va_runV (As := [.int (nI 1)]) (rest := []) hF (c_X3_traced l D cI cS ad fa n fo ki st we lo ra rch q0 q1 q2 q3 fk fc rd rc rv sh sle sla bg hd (tr1 tr 1) 1 hnd) (cwV 1 hts gX3_tell_X3_traced rfl rfl rfl hV_X3_traced ⟨Nat.le_of_ble_eq_true rfl, Nat.le_of_ble_eq_true rfl⟩) (PR.preV hG hP (ci := 3) rfl rfl) rfl rfl hl.1 rfl (lv_room (Nat.le_of_ble_eq_true rfl)) dX3_tell_48 ⟨Nat.le_refl _, Nat.le_refl _⟩) hD hS rfl (fun _ => rfl) (fun u_48 H locs q_48 hP hD hS => ?_)
          try dsimp only at q_48 hP hD
          have hP : va_P D vwCl (wM cI ad fa n fo ki st we lo ra rch q0 q1 q2 q3 fk fc rd rc rv sh sle sla bg hd (tr1 (tr1 tr 1) 1)) H := hP
          have hD : va_D (AW (adM ad)) (wM cI ad fa n fo ki st we lo ra rch q0 q1 q2 q3 fk fc rd rc rv sh sle sla bg hd (tr1 (tr1 tr 1) 1)) := hD
          refine lv_aload_n hx hb dX3_tell_51 rfl (lv_at hl 1 rfl) ?_
          refine va_get (D := D) (ci := 3) (v := .ref (ad 3)) (C := RX3) (T := TX3) (N := 23) hx hb yX3 (fun _ h => h) hown hG.1 hP 0 rfl rfl 5 (by decide) f16 (fun _ h => h) rfl dX3_tell_52 ?_
          refine lv_iload_n hx hb dX3_tell_55 rfl (lv_at hl 2 rfl) ?_
          refine xaldN hx hb hG hP 3 rfl (j) rfl (by omega) (by decide) dX3_tell_56 ?_
          refine lv_istore_n (lv' := [(3, .int (nI (we j))), (2, .int (nI (ki j))), (0, .ref (ad 0)), (1, .int (nI j))]) hx hb dX3_tell_57 rfl hl (by decide) rfl (fun ls hl => ?_)
          refine lv_iload_n hx hb dX3_tell_58 rfl (lv_at hl 1 rfl) ?_
          refine lv_if_ne (tgt := 66) hx hb dX3_tell_59 (by decide) (fun c_59 => ?_) (fun c_59 => ?_)
          ·
            replace c_59 := (not_congr (nI_eq (a := ki j) (b := 0) (by omega) (by omega))).mp c_59
            refine lv_iload_n hx hb dX3_tell_66 rfl (lv_at hl 1 rfl) ?_
            refine lv_iconst (v := nI 1) hx hb dX3_tell_67 (by decide) ?_
            refine lv_icmp_ne (tgt := 78) hx hb dX3_tell_68 (by decide) (fun c_68 => ?_) (fun c_68 => ?_)
            ·
              replace c_68 := (not_congr (nI_eq (a := ki j) (b := 1) (by omega) (by omega))).mp c_68
              refine lv_iconst (v := nI 2) hx hb dX3_tell_78 (by decide) ?_
              refine lv_iload_n hx hb dX3_tell_79 rfl (lv_at hl 0 rfl) ?_
              refine xmulN hx hb dX3_tell_80 ?_
              refine lv_bipush (v := nI 100) hx hb dX3_tell_81 (by decide) ?_
              refine xaddN hx hb dX3_tell_83 ?_
              exact xretM hx hb hr hlk dX3_tell_84 hS () (by first | (simp [A_tell, tellV, c_5, hclj, c_19, c_28, c_43, c_59, c_68]; done) | (exfalso; omega) | (simp [A_tell, tellV, c_5, hclj, c_19, c_28, c_43, c_59, c_68]; congr 1; omega)) (fun t ht => by rw [ht]; rw [show S_tell n ki tr (nI j) = (tr1 (tr1 tr 1) 1) from by first | (simp [S_tell, tellT, c_5, hclj, c_19, c_28, c_43, c_59, c_68]; done) | (exfalso; omega)]; exact hP)
            ·
              replace c_68 := (nI_eq (a := ki j) (b := 1) (by omega) (by omega)).mp c_68
              refine lv_iload_n hx hb dX3_tell_71 rfl (lv_at hl 0 rfl) ?_
              refine lv_bipush (v := nI 100) hx hb dX3_tell_72 (by decide) ?_
              refine xaddN hx hb dX3_tell_74 ?_
              refine lv_goto (tgt := 84) hx hb dX3_tell_75 (by decide) ?_
              exact xretM hx hb hr hlk dX3_tell_84 hS () (by first | (simp [A_tell, tellV, c_5, hclj, c_19, c_28, c_43, c_59, c_68]; done) | (exfalso; omega) | (simp [A_tell, tellV, c_5, hclj, c_19, c_28, c_43, c_59, c_68]; congr 1; omega)) (fun t ht => by rw [ht]; rw [show S_tell n ki tr (nI j) = (tr1 (tr1 tr 1) 1) from by first | (simp [S_tell, tellT, c_5, hclj, c_19, c_28, c_43, c_59, c_68]; done) | (exfalso; omega)]; exact hP)
          ·
            replace c_59 := (nI_eq (a := ki j) (b := 0) (by omega) (by omega)).mp c_59
            refine lv_iload_n hx hb dX3_tell_62 rfl (lv_at hl 0 rfl) ?_
            refine lv_goto (tgt := 84) hx hb dX3_tell_63 (by decide) ?_
            exact xretM hx hb hr hlk dX3_tell_84 hS () (by first | (simp [A_tell, tellV, c_5, hclj, c_19, c_28, c_43, c_59]; done) | (exfalso; omega) | (simp [A_tell, tellV, c_5, hclj, c_19, c_28, c_43, c_59]; congr 1; omega)) (fun t ht => by rw [ht]; rw [show S_tell n ki tr (nI j) = (tr1 (tr1 tr 1) 1) from by first | (simp [S_tell, tellT, c_5, hclj, c_19, c_28, c_43, c_59]; done) | (exfalso; omega)]; exact hP)
      ·
        replace c_28 := (not_congr (nI_leI (a := ki j) (b := 0) (by omega) (by omega))).mp c_28
        refine lv_aload_n hx hb dX3_tell_31 rfl (lv_at hl 1 rfl) ?_
        refine lv_iconst (v := nI 2) hx hb dX3_tell_32 (by decide) ?_
        refine xmuWv (va_runV (As := [.int (nI 2)]) (rest := []) hF (c_X3_traced l D cI cS ad fa n fo ki st we lo ra rch q0 q1 q2 q3 fk fc rd rc rv sh sle sla bg hd tr 2 hnd) (cwV 1 hts gX3_tell_X3_traced rfl rfl rfl hV_X3_traced ⟨Nat.le_of_ble_eq_true rfl, Nat.le_of_ble_eq_true rfl⟩) (PR.preV hG hP (ci := 3) rfl rfl) rfl rfl hl.1 rfl (lv_room (Nat.le_of_ble_eq_true rfl)) dX3_tell_33 ⟨Nat.le_refl _, Nat.le_refl _⟩) hD hS rfl (fun _ => rfl) (fun u_33 H locs q_33 hP hD hS => ?_)
        try dsimp only at q_33 hP hD
        have hP : va_P D vwCl (wM cI ad fa n fo ki st we lo ra rch q0 q1 q2 q3 fk fc rd rc rv sh sle sla bg hd (tr1 tr 2)) H := hP
        have hD : va_D (AW (adM ad)) (wM cI ad fa n fo ki st we lo ra rch q0 q1 q2 q3 fk fc rd rc rv sh sle sla bg hd (tr1 tr 2)) := hD
        refine lv_aload_n hx hb dX3_tell_36 rfl (lv_at hl 1 rfl) ?_
        refine lv_iconst (v := nI 1) hx hb dX3_tell_37 (by decide) ?_
        refine xmuWv (va_runV (As := [.int (nI 1)]) (rest := []) hF (c_X3_traced l D cI cS ad fa n fo ki st we lo ra rch q0 q1 q2 q3 fk fc rd rc rv sh sle sla bg hd (tr1 tr 2) 1 hnd) (cwV 1 hts gX3_tell_X3_traced rfl rfl rfl hV_X3_traced ⟨Nat.le_of_ble_eq_true rfl, Nat.le_of_ble_eq_true rfl⟩) (PR.preV hG hP (ci := 3) rfl rfl) rfl rfl hl.1 rfl (lv_room (Nat.le_of_ble_eq_true rfl)) dX3_tell_38 ⟨Nat.le_refl _, Nat.le_refl _⟩) hD hS rfl (fun _ => rfl) (fun u_38 H locs q_38 hP hD hS => ?_)
        try dsimp only at q_38 hP hD
        have hP : va_P D vwCl (wM cI ad fa n fo ki st we lo ra rch q0 q1 q2 q3 fk fc rd rc rv sh sle sla bg hd (tr1 (tr1 tr 2) 1)) H := hP
        have hD : va_D (AW (adM ad)) (wM cI ad fa n fo ki st we lo ra rch q0 q1 q2 q3 fk fc rd rc rv sh sle sla bg hd (tr1 (tr1 tr 2) 1)) := hD
        refine lv_iload_n hx hb dX3_tell_41 rfl (lv_at hl 0 rfl) ?_
        refine lv_iconst (v := nI 2) hx hb dX3_tell_42 (by decide) ?_
        refine lv_icmp_ne (tgt := 51) hx hb dX3_tell_43 (by decide) (fun c_43 => ?_) (fun c_43 => ?_)
        ·
          replace c_43 := (not_congr (nI_eq (a := ki j) (b := 2) (by omega) (by omega))).mp c_43
          refine lv_aload_n hx hb dX3_tell_51 rfl (lv_at hl 1 rfl) ?_
          refine va_get (D := D) (ci := 3) (v := .ref (ad 3)) (C := RX3) (T := TX3) (N := 23) hx hb yX3 (fun _ h => h) hown hG.1 hP 0 rfl rfl 5 (by decide) f16 (fun _ h => h) rfl dX3_tell_52 ?_
          refine lv_iload_n hx hb dX3_tell_55 rfl (lv_at hl 2 rfl) ?_
          refine xaldN hx hb hG hP 3 rfl (j) rfl (by omega) (by decide) dX3_tell_56 ?_
          refine lv_istore_n (lv' := [(3, .int (nI (we j))), (2, .int (nI (ki j))), (0, .ref (ad 0)), (1, .int (nI j))]) hx hb dX3_tell_57 rfl hl (by decide) rfl (fun ls hl => ?_)
          refine lv_iload_n hx hb dX3_tell_58 rfl (lv_at hl 1 rfl) ?_
          refine lv_if_ne (tgt := 66) hx hb dX3_tell_59 (by decide) (fun c_59 => ?_) (fun c_59 => ?_)
          ·
            replace c_59 := (not_congr (nI_eq (a := ki j) (b := 0) (by omega) (by omega))).mp c_59
            refine lv_iload_n hx hb dX3_tell_66 rfl (lv_at hl 1 rfl) ?_
            refine lv_iconst (v := nI 1) hx hb dX3_tell_67 (by decide) ?_
            refine lv_icmp_ne (tgt := 78) hx hb dX3_tell_68 (by decide) (fun c_68 => ?_) (fun c_68 => ?_)
            ·
              replace c_68 := (not_congr (nI_eq (a := ki j) (b := 1) (by omega) (by omega))).mp c_68
              refine lv_iconst (v := nI 2) hx hb dX3_tell_78 (by decide) ?_
              refine lv_iload_n hx hb dX3_tell_79 rfl (lv_at hl 0 rfl) ?_
              refine xmulN hx hb dX3_tell_80 ?_
              refine lv_bipush (v := nI 100) hx hb dX3_tell_81 (by decide) ?_
              refine xaddN hx hb dX3_tell_83 ?_
              exact xretM hx hb hr hlk dX3_tell_84 hS () (by first | (simp [A_tell, tellV, c_5, hclj, c_19, c_28, c_43, c_59, c_68]; done) | (exfalso; omega) | (simp [A_tell, tellV, c_5, hclj, c_19, c_28, c_43, c_59, c_68]; congr 1; omega)) (fun t ht => by rw [ht]; rw [show S_tell n ki tr (nI j) = (tr1 (tr1 tr 2) 1) from by first | (simp [S_tell, tellT, c_5, hclj, c_19, c_28, c_43, c_59, c_68]; done) | (exfalso; omega)]; exact hP)
            ·
              replace c_68 := (nI_eq (a := ki j) (b := 1) (by omega) (by omega)).mp c_68
              refine lv_iload_n hx hb dX3_tell_71 rfl (lv_at hl 0 rfl) ?_
              refine lv_bipush (v := nI 100) hx hb dX3_tell_72 (by decide) ?_
              refine xaddN hx hb dX3_tell_74 ?_
              refine lv_goto (tgt := 84) hx hb dX3_tell_75 (by decide) ?_
              exact xretM hx hb hr hlk dX3_tell_84 hS () (by first | (simp [A_tell, tellV, c_5, hclj, c_19, c_28, c_43, c_59, c_68]; done) | (exfalso; omega) | (simp [A_tell, tellV, c_5, hclj, c_19, c_28, c_43, c_59, c_68]; congr 1; omega)) (fun t ht => by rw [ht]; rw [show S_tell n ki tr (nI j) = (tr1 (tr1 tr 2) 1) from by first | (simp [S_tell, tellT, c_5, hclj, c_19, c_28, c_43, c_59, c_68]; done) | (exfalso; omega)]; exact hP)
          ·
            replace c_59 := (nI_eq (a := ki j) (b := 0) (by omega) (by omega)).mp c_59
            refine lv_iload_n hx hb dX3_tell_62 rfl (lv_at hl 0 rfl) ?_
            refine lv_goto (tgt := 84) hx hb dX3_tell_63 (by decide) ?_
            exact xretM hx hb hr hlk dX3_tell_84 hS () (by first | (simp [A_tell, tellV, c_5, hclj, c_19, c_28, c_43, c_59]; done) | (exfalso; omega) | (simp [A_tell, tellV, c_5, hclj, c_19, c_28, c_43, c_59]; congr 1; omega)) (fun t ht => by rw [ht]; rw [show S_tell n ki tr (nI j) = (tr1 (tr1 tr 2) 1) from by first | (simp [S_tell, tellT, c_5, hclj, c_19, c_28, c_43, c_59]; done) | (exfalso; omega)]; exact hP)
        ·
          replace c_43 := (nI_eq (a := ki j) (b := 2) (by omega) (by omega)).mp c_43
          refine lv_aload_n hx hb dX3_tell_46 rfl (lv_at hl 1 rfl) ?_
          refine lv_iconst (v := nI 1) hx hb dX3_tell_47 (by decide) ?_
          refine xmuWv (va_runV (As := [.int (nI 1)]) (rest := []) hF (c_X3_traced l D cI cS ad fa n fo ki st we lo ra rch q0 q1 q2 q3 fk fc rd rc rv sh sle sla bg hd (tr1 (tr1 tr 2) 1) 1 hnd) (cwV 1 hts gX3_tell_X3_traced rfl rfl rfl hV_X3_traced ⟨Nat.le_of_ble_eq_true rfl, Nat.le_of_ble_eq_true rfl⟩) (PR.preV hG hP (ci := 3) rfl rfl) rfl rfl hl.1 rfl (lv_room (Nat.le_of_ble_eq_true rfl)) dX3_tell_48 ⟨Nat.le_refl _, Nat.le_refl _⟩) hD hS rfl (fun _ => rfl) (fun u_48 H locs q_48 hP hD hS => ?_)
          try dsimp only at q_48 hP hD
          have hP : va_P D vwCl (wM cI ad fa n fo ki st we lo ra rch q0 q1 q2 q3 fk fc rd rc rv sh sle sla bg hd (tr1 (tr1 (tr1 tr 2) 1) 1)) H := hP
          have hD : va_D (AW (adM ad)) (wM cI ad fa n fo ki st we lo ra rch q0 q1 q2 q3 fk fc rd rc rv sh sle sla bg hd (tr1 (tr1 (tr1 tr 2) 1) 1)) := hD
          refine lv_aload_n hx hb dX3_tell_51 rfl (lv_at hl 1 rfl) ?_
          refine va_get (D := D) (ci := 3) (v := .ref (ad 3)) (C := RX3) (T := TX3) (N := 23) hx hb yX3 (fun _ h => h) hown hG.1 hP 0 rfl rfl 5 (by decide) f16 (fun _ h => h) rfl dX3_tell_52 ?_
          refine lv_iload_n hx hb dX3_tell_55 rfl (lv_at hl 2 rfl) ?_
          refine xaldN hx hb hG hP 3 rfl (j) rfl (by omega) (by decide) dX3_tell_56 ?_
          refine lv_istore_n (lv' := [(3, .int (nI (we j))), (2, .int (nI (ki j))), (0, .ref (ad 0)), (1, .int (nI j))]) hx hb dX3_tell_57 rfl hl (by decide) rfl (fun ls hl => ?_)
          refine lv_iload_n hx hb dX3_tell_58 rfl (lv_at hl 1 rfl) ?_
          refine lv_if_ne (tgt := 66) hx hb dX3_tell_59 (by decide) (fun c_59 => ?_) (fun c_59 => ?_)
          ·
            replace c_59 := (not_congr (nI_eq (a := ki j) (b := 0) (by omega) (by omega))).mp c_59
            refine lv_iload_n hx hb dX3_tell_66 rfl (lv_at hl 1 rfl) ?_
            refine lv_iconst (v := nI 1) hx hb dX3_tell_67 (by decide) ?_
            refine lv_icmp_ne (tgt := 78) hx hb dX3_tell_68 (by decide) (fun c_68 => ?_) (fun c_68 => ?_)
            ·
              replace c_68 := (not_congr (nI_eq (a := ki j) (b := 1) (by omega) (by omega))).mp c_68
              refine lv_iconst (v := nI 2) hx hb dX3_tell_78 (by decide) ?_
              refine lv_iload_n hx hb dX3_tell_79 rfl (lv_at hl 0 rfl) ?_
              refine xmulN hx hb dX3_tell_80 ?_
              refine lv_bipush (v := nI 100) hx hb dX3_tell_81 (by decide) ?_
              refine xaddN hx hb dX3_tell_83 ?_
              exact xretM hx hb hr hlk dX3_tell_84 hS () (by first | (simp [A_tell, tellV, c_5, hclj, c_19, c_28, c_43, c_59, c_68]; done) | (exfalso; omega) | (simp [A_tell, tellV, c_5, hclj, c_19, c_28, c_43, c_59, c_68]; congr 1; omega)) (fun t ht => by rw [ht]; rw [show S_tell n ki tr (nI j) = (tr1 (tr1 (tr1 tr 2) 1) 1) from by first | (simp [S_tell, tellT, c_5, hclj, c_19, c_28, c_43, c_59, c_68]; done) | (exfalso; omega)]; exact hP)
            ·
              replace c_68 := (nI_eq (a := ki j) (b := 1) (by omega) (by omega)).mp c_68
              refine lv_iload_n hx hb dX3_tell_71 rfl (lv_at hl 0 rfl) ?_
              refine lv_bipush (v := nI 100) hx hb dX3_tell_72 (by decide) ?_
              refine xaddN hx hb dX3_tell_74 ?_
              refine lv_goto (tgt := 84) hx hb dX3_tell_75 (by decide) ?_
              exact xretM hx hb hr hlk dX3_tell_84 hS () (by first | (simp [A_tell, tellV, c_5, hclj, c_19, c_28, c_43, c_59, c_68]; done) | (exfalso; omega) | (simp [A_tell, tellV, c_5, hclj, c_19, c_28, c_43, c_59, c_68]; congr 1; omega)) (fun t ht => by rw [ht]; rw [show S_tell n ki tr (nI j) = (tr1 (tr1 (tr1 tr 2) 1) 1) from by first | (simp [S_tell, tellT, c_5, hclj, c_19, c_28, c_43, c_59, c_68]; done) | (exfalso; omega)]; exact hP)
          ·
            replace c_59 := (nI_eq (a := ki j) (b := 0) (by omega) (by omega)).mp c_59
            refine lv_iload_n hx hb dX3_tell_62 rfl (lv_at hl 0 rfl) ?_
            refine lv_goto (tgt := 84) hx hb dX3_tell_63 (by decide) ?_
            exact xretM hx hb hr hlk dX3_tell_84 hS () (by first | (simp [A_tell, tellV, c_5, hclj, c_19, c_28, c_43, c_59]; done) | (exfalso; omega) | (simp [A_tell, tellV, c_5, hclj, c_19, c_28, c_43, c_59]; congr 1; omega)) (fun t ht => by rw [ht]; rw [show S_tell n ki tr (nI j) = (tr1 (tr1 (tr1 tr 2) 1) 1) from by first | (simp [S_tell, tellT, c_5, hclj, c_19, c_28, c_43, c_59]; done) | (exfalso; omega)]; exact hP)
    ·
      replace c_19 := (nI_eq (a := ki j) (b := 2) (by omega) (by omega)).mp c_19
      refine lv_aload_n hx hb dX3_tell_22 rfl (lv_at hl 1 rfl) ?_
      refine lv_iconst (v := nI 3) hx hb dX3_tell_23 (by decide) ?_
      refine xmuWv (va_runV (As := [.int (nI 3)]) (rest := []) hF (c_X3_traced l D cI cS ad fa n fo ki st we lo ra rch q0 q1 q2 q3 fk fc rd rc rv sh sle sla bg hd tr 3 hnd) (cwV 1 hts gX3_tell_X3_traced rfl rfl rfl hV_X3_traced ⟨Nat.le_of_ble_eq_true rfl, Nat.le_of_ble_eq_true rfl⟩) (PR.preV hG hP (ci := 3) rfl rfl) rfl rfl hl.1 rfl (lv_room (Nat.le_of_ble_eq_true rfl)) dX3_tell_24 ⟨Nat.le_refl _, Nat.le_refl _⟩) hD hS rfl (fun _ => rfl) (fun u_24 H locs q_24 hP hD hS => ?_)
      try dsimp only at q_24 hP hD
      have hP : va_P D vwCl (wM cI ad fa n fo ki st we lo ra rch q0 q1 q2 q3 fk fc rd rc rv sh sle sla bg hd (tr1 tr 3)) H := hP
      have hD : va_D (AW (adM ad)) (wM cI ad fa n fo ki st we lo ra rch q0 q1 q2 q3 fk fc rd rc rv sh sle sla bg hd (tr1 tr 3)) := hD
      refine lv_iload_n hx hb dX3_tell_27 rfl (lv_at hl 0 rfl) ?_
      refine lv_if_le (tgt := 36) hx hb dX3_tell_28 (by decide) (fun c_28 => ?_) (fun c_28 => ?_)
      ·
        replace c_28 := (nI_leI (a := ki j) (b := 0) (by omega) (by omega)).mp c_28
        refine lv_aload_n hx hb dX3_tell_36 rfl (lv_at hl 1 rfl) ?_
        refine lv_iconst (v := nI 1) hx hb dX3_tell_37 (by decide) ?_
        refine xmuWv (va_runV (As := [.int (nI 1)]) (rest := []) hF (c_X3_traced l D cI cS ad fa n fo ki st we lo ra rch q0 q1 q2 q3 fk fc rd rc rv sh sle sla bg hd (tr1 tr 3) 1 hnd) (cwV 1 hts gX3_tell_X3_traced rfl rfl rfl hV_X3_traced ⟨Nat.le_of_ble_eq_true rfl, Nat.le_of_ble_eq_true rfl⟩) (PR.preV hG hP (ci := 3) rfl rfl) rfl rfl hl.1 rfl (lv_room (Nat.le_of_ble_eq_true rfl)) dX3_tell_38 ⟨Nat.le_refl _, Nat.le_refl _⟩) hD hS rfl (fun _ => rfl) (fun u_38 H locs q_38 hP hD hS => ?_)
        try dsimp only at q_38 hP hD
        have hP : va_P D vwCl (wM cI ad fa n fo ki st we lo ra rch q0 q1 q2 q3 fk fc rd rc rv sh sle sla bg hd (tr1 (tr1 tr 3) 1)) H := hP
        have hD : va_D (AW (adM ad)) (wM cI ad fa n fo ki st we lo ra rch q0 q1 q2 q3 fk fc rd rc rv sh sle sla bg hd (tr1 (tr1 tr 3) 1)) := hD
        refine lv_iload_n hx hb dX3_tell_41 rfl (lv_at hl 0 rfl) ?_
        refine lv_iconst (v := nI 2) hx hb dX3_tell_42 (by decide) ?_
        refine lv_icmp_ne (tgt := 51) hx hb dX3_tell_43 (by decide) (fun c_43 => ?_) (fun c_43 => ?_)
        ·
          replace c_43 := (not_congr (nI_eq (a := ki j) (b := 2) (by omega) (by omega))).mp c_43
          refine lv_aload_n hx hb dX3_tell_51 rfl (lv_at hl 1 rfl) ?_
          refine va_get (D := D) (ci := 3) (v := .ref (ad 3)) (C := RX3) (T := TX3) (N := 23) hx hb yX3 (fun _ h => h) hown hG.1 hP 0 rfl rfl 5 (by decide) f16 (fun _ h => h) rfl dX3_tell_52 ?_
          refine lv_iload_n hx hb dX3_tell_55 rfl (lv_at hl 2 rfl) ?_
          refine xaldN hx hb hG hP 3 rfl (j) rfl (by omega) (by decide) dX3_tell_56 ?_
          refine lv_istore_n (lv' := [(3, .int (nI (we j))), (2, .int (nI (ki j))), (0, .ref (ad 0)), (1, .int (nI j))]) hx hb dX3_tell_57 rfl hl (by decide) rfl (fun ls hl => ?_)
          refine lv_iload_n hx hb dX3_tell_58 rfl (lv_at hl 1 rfl) ?_
          refine lv_if_ne (tgt := 66) hx hb dX3_tell_59 (by decide) (fun c_59 => ?_) (fun c_59 => ?_)
          ·
            replace c_59 := (not_congr (nI_eq (a := ki j) (b := 0) (by omega) (by omega))).mp c_59
            refine lv_iload_n hx hb dX3_tell_66 rfl (lv_at hl 1 rfl) ?_
            refine lv_iconst (v := nI 1) hx hb dX3_tell_67 (by decide) ?_
            refine lv_icmp_ne (tgt := 78) hx hb dX3_tell_68 (by decide) (fun c_68 => ?_) (fun c_68 => ?_)
            ·
              replace c_68 := (not_congr (nI_eq (a := ki j) (b := 1) (by omega) (by omega))).mp c_68
              refine lv_iconst (v := nI 2) hx hb dX3_tell_78 (by decide) ?_
              refine lv_iload_n hx hb dX3_tell_79 rfl (lv_at hl 0 rfl) ?_
              refine xmulN hx hb dX3_tell_80 ?_
              refine lv_bipush (v := nI 100) hx hb dX3_tell_81 (by decide) ?_
              refine xaddN hx hb dX3_tell_83 ?_
              exact xretM hx hb hr hlk dX3_tell_84 hS () (by first | (simp [A_tell, tellV, c_5, hclj, c_19, c_28, c_43, c_59, c_68]; done) | (exfalso; omega) | (simp [A_tell, tellV, c_5, hclj, c_19, c_28, c_43, c_59, c_68]; congr 1; omega)) (fun t ht => by rw [ht]; rw [show S_tell n ki tr (nI j) = (tr1 (tr1 tr 3) 1) from by first | (simp [S_tell, tellT, c_5, hclj, c_19, c_28, c_43, c_59, c_68]; done) | (exfalso; omega)]; exact hP)
            ·
              replace c_68 := (nI_eq (a := ki j) (b := 1) (by omega) (by omega)).mp c_68
              refine lv_iload_n hx hb dX3_tell_71 rfl (lv_at hl 0 rfl) ?_
              refine lv_bipush (v := nI 100) hx hb dX3_tell_72 (by decide) ?_
              refine xaddN hx hb dX3_tell_74 ?_
              refine lv_goto (tgt := 84) hx hb dX3_tell_75 (by decide) ?_
              exact xretM hx hb hr hlk dX3_tell_84 hS () (by first | (simp [A_tell, tellV, c_5, hclj, c_19, c_28, c_43, c_59, c_68]; done) | (exfalso; omega) | (simp [A_tell, tellV, c_5, hclj, c_19, c_28, c_43, c_59, c_68]; congr 1; omega)) (fun t ht => by rw [ht]; rw [show S_tell n ki tr (nI j) = (tr1 (tr1 tr 3) 1) from by first | (simp [S_tell, tellT, c_5, hclj, c_19, c_28, c_43, c_59, c_68]; done) | (exfalso; omega)]; exact hP)
          ·
            replace c_59 := (nI_eq (a := ki j) (b := 0) (by omega) (by omega)).mp c_59
            refine lv_iload_n hx hb dX3_tell_62 rfl (lv_at hl 0 rfl) ?_
            refine lv_goto (tgt := 84) hx hb dX3_tell_63 (by decide) ?_
            exact xretM hx hb hr hlk dX3_tell_84 hS () (by first | (simp [A_tell, tellV, c_5, hclj, c_19, c_28, c_43, c_59]; done) | (exfalso; omega) | (simp [A_tell, tellV, c_5, hclj, c_19, c_28, c_43, c_59]; congr 1; omega)) (fun t ht => by rw [ht]; rw [show S_tell n ki tr (nI j) = (tr1 (tr1 tr 3) 1) from by first | (simp [S_tell, tellT, c_5, hclj, c_19, c_28, c_43, c_59]; done) | (exfalso; omega)]; exact hP)
        ·
          replace c_43 := (nI_eq (a := ki j) (b := 2) (by omega) (by omega)).mp c_43
          refine lv_aload_n hx hb dX3_tell_46 rfl (lv_at hl 1 rfl) ?_
          refine lv_iconst (v := nI 1) hx hb dX3_tell_47 (by decide) ?_
          refine xmuWv (va_runV (As := [.int (nI 1)]) (rest := []) hF (c_X3_traced l D cI cS ad fa n fo ki st we lo ra rch q0 q1 q2 q3 fk fc rd rc rv sh sle sla bg hd (tr1 (tr1 tr 3) 1) 1 hnd) (cwV 1 hts gX3_tell_X3_traced rfl rfl rfl hV_X3_traced ⟨Nat.le_of_ble_eq_true rfl, Nat.le_of_ble_eq_true rfl⟩) (PR.preV hG hP (ci := 3) rfl rfl) rfl rfl hl.1 rfl (lv_room (Nat.le_of_ble_eq_true rfl)) dX3_tell_48 ⟨Nat.le_refl _, Nat.le_refl _⟩) hD hS rfl (fun _ => rfl) (fun u_48 H locs q_48 hP hD hS => ?_)
          try dsimp only at q_48 hP hD
          have hP : va_P D vwCl (wM cI ad fa n fo ki st we lo ra rch q0 q1 q2 q3 fk fc rd rc rv sh sle sla bg hd (tr1 (tr1 (tr1 tr 3) 1) 1)) H := hP
          have hD : va_D (AW (adM ad)) (wM cI ad fa n fo ki st we lo ra rch q0 q1 q2 q3 fk fc rd rc rv sh sle sla bg hd (tr1 (tr1 (tr1 tr 3) 1) 1)) := hD
          refine lv_aload_n hx hb dX3_tell_51 rfl (lv_at hl 1 rfl) ?_
          refine va_get (D := D) (ci := 3) (v := .ref (ad 3)) (C := RX3) (T := TX3) (N := 23) hx hb yX3 (fun _ h => h) hown hG.1 hP 0 rfl rfl 5 (by decide) f16 (fun _ h => h) rfl dX3_tell_52 ?_
          refine lv_iload_n hx hb dX3_tell_55 rfl (lv_at hl 2 rfl) ?_
          refine xaldN hx hb hG hP 3 rfl (j) rfl (by omega) (by decide) dX3_tell_56 ?_
          refine lv_istore_n (lv' := [(3, .int (nI (we j))), (2, .int (nI (ki j))), (0, .ref (ad 0)), (1, .int (nI j))]) hx hb dX3_tell_57 rfl hl (by decide) rfl (fun ls hl => ?_)
          refine lv_iload_n hx hb dX3_tell_58 rfl (lv_at hl 1 rfl) ?_
          refine lv_if_ne (tgt := 66) hx hb dX3_tell_59 (by decide) (fun c_59 => ?_) (fun c_59 => ?_)
          ·
            replace c_59 := (not_congr (nI_eq (a := ki j) (b := 0) (by omega) (by omega))).mp c_59
            refine lv_iload_n hx hb dX3_tell_66 rfl (lv_at hl 1 rfl) ?_
            refine lv_iconst (v := nI 1) hx hb dX3_tell_67 (by decide) ?_
            refine lv_icmp_ne (tgt := 78) hx hb dX3_tell_68 (by decide) (fun c_68 => ?_) (fun c_68 => ?_)
            ·
              replace c_68 := (not_congr (nI_eq (a := ki j) (b := 1) (by omega) (by omega))).mp c_68
              refine lv_iconst (v := nI 2) hx hb dX3_tell_78 (by decide) ?_
              refine lv_iload_n hx hb dX3_tell_79 rfl (lv_at hl 0 rfl) ?_
              refine xmulN hx hb dX3_tell_80 ?_
              refine lv_bipush (v := nI 100) hx hb dX3_tell_81 (by decide) ?_
              refine xaddN hx hb dX3_tell_83 ?_
              exact xretM hx hb hr hlk dX3_tell_84 hS () (by first | (simp [A_tell, tellV, c_5, hclj, c_19, c_28, c_43, c_59, c_68]; done) | (exfalso; omega) | (simp [A_tell, tellV, c_5, hclj, c_19, c_28, c_43, c_59, c_68]; congr 1; omega)) (fun t ht => by rw [ht]; rw [show S_tell n ki tr (nI j) = (tr1 (tr1 (tr1 tr 3) 1) 1) from by first | (simp [S_tell, tellT, c_5, hclj, c_19, c_28, c_43, c_59, c_68]; done) | (exfalso; omega)]; exact hP)
            ·
              replace c_68 := (nI_eq (a := ki j) (b := 1) (by omega) (by omega)).mp c_68
              refine lv_iload_n hx hb dX3_tell_71 rfl (lv_at hl 0 rfl) ?_
              refine lv_bipush (v := nI 100) hx hb dX3_tell_72 (by decide) ?_
              refine xaddN hx hb dX3_tell_74 ?_
              refine lv_goto (tgt := 84) hx hb dX3_tell_75 (by decide) ?_
              exact xretM hx hb hr hlk dX3_tell_84 hS () (by first | (simp [A_tell, tellV, c_5, hclj, c_19, c_28, c_43, c_59, c_68]; done) | (exfalso; omega) | (simp [A_tell, tellV, c_5, hclj, c_19, c_28, c_43, c_59, c_68]; congr 1; omega)) (fun t ht => by rw [ht]; rw [show S_tell n ki tr (nI j) = (tr1 (tr1 (tr1 tr 3) 1) 1) from by first | (simp [S_tell, tellT, c_5, hclj, c_19, c_28, c_43, c_59, c_68]; done) | (exfalso; omega)]; exact hP)
          ·
            replace c_59 := (nI_eq (a := ki j) (b := 0) (by omega) (by omega)).mp c_59
            refine lv_iload_n hx hb dX3_tell_62 rfl (lv_at hl 0 rfl) ?_
            refine lv_goto (tgt := 84) hx hb dX3_tell_63 (by decide) ?_
            exact xretM hx hb hr hlk dX3_tell_84 hS () (by first | (simp [A_tell, tellV, c_5, hclj, c_19, c_28, c_43, c_59]; done) | (exfalso; omega) | (simp [A_tell, tellV, c_5, hclj, c_19, c_28, c_43, c_59]; congr 1; omega)) (fun t ht => by rw [ht]; rw [show S_tell n ki tr (nI j) = (tr1 (tr1 (tr1 tr 3) 1) 1) from by first | (simp [S_tell, tellT, c_5, hclj, c_19, c_28, c_43, c_59]; done) | (exfalso; omega)]; exact hP)
      ·
        replace c_28 := (not_congr (nI_leI (a := ki j) (b := 0) (by omega) (by omega))).mp c_28
        refine lv_aload_n hx hb dX3_tell_31 rfl (lv_at hl 1 rfl) ?_
        refine lv_iconst (v := nI 2) hx hb dX3_tell_32 (by decide) ?_
        refine xmuWv (va_runV (As := [.int (nI 2)]) (rest := []) hF (c_X3_traced l D cI cS ad fa n fo ki st we lo ra rch q0 q1 q2 q3 fk fc rd rc rv sh sle sla bg hd (tr1 tr 3) 2 hnd) (cwV 1 hts gX3_tell_X3_traced rfl rfl rfl hV_X3_traced ⟨Nat.le_of_ble_eq_true rfl, Nat.le_of_ble_eq_true rfl⟩) (PR.preV hG hP (ci := 3) rfl rfl) rfl rfl hl.1 rfl (lv_room (Nat.le_of_ble_eq_true rfl)) dX3_tell_33 ⟨Nat.le_refl _, Nat.le_refl _⟩) hD hS rfl (fun _ => rfl) (fun u_33 H locs q_33 hP hD hS => ?_)
        try dsimp only at q_33 hP hD
        have hP : va_P D vwCl (wM cI ad fa n fo ki st we lo ra rch q0 q1 q2 q3 fk fc rd rc rv sh sle sla bg hd (tr1 (tr1 tr 3) 2)) H := hP
        have hD : va_D (AW (adM ad)) (wM cI ad fa n fo ki st we lo ra rch q0 q1 q2 q3 fk fc rd rc rv sh sle sla bg hd (tr1 (tr1 tr 3) 2)) := hD
        refine lv_aload_n hx hb dX3_tell_36 rfl (lv_at hl 1 rfl) ?_
        refine lv_iconst (v := nI 1) hx hb dX3_tell_37 (by decide) ?_
        refine xmuWv (va_runV (As := [.int (nI 1)]) (rest := []) hF (c_X3_traced l D cI cS ad fa n fo ki st we lo ra rch q0 q1 q2 q3 fk fc rd rc rv sh sle sla bg hd (tr1 (tr1 tr 3) 2) 1 hnd) (cwV 1 hts gX3_tell_X3_traced rfl rfl rfl hV_X3_traced ⟨Nat.le_of_ble_eq_true rfl, Nat.le_of_ble_eq_true rfl⟩) (PR.preV hG hP (ci := 3) rfl rfl) rfl rfl hl.1 rfl (lv_room (Nat.le_of_ble_eq_true rfl)) dX3_tell_38 ⟨Nat.le_refl _, Nat.le_refl _⟩) hD hS rfl (fun _ => rfl) (fun u_38 H locs q_38 hP hD hS => ?_)
        try dsimp only at q_38 hP hD
        have hP : va_P D vwCl (wM cI ad fa n fo ki st we lo ra rch q0 q1 q2 q3 fk fc rd rc rv sh sle sla bg hd (tr1 (tr1 (tr1 tr 3) 2) 1)) H := hP
        have hD : va_D (AW (adM ad)) (wM cI ad fa n fo ki st we lo ra rch q0 q1 q2 q3 fk fc rd rc rv sh sle sla bg hd (tr1 (tr1 (tr1 tr 3) 2) 1)) := hD
        refine lv_iload_n hx hb dX3_tell_41 rfl (lv_at hl 0 rfl) ?_
        refine lv_iconst (v := nI 2) hx hb dX3_tell_42 (by decide) ?_
        refine lv_icmp_ne (tgt := 51) hx hb dX3_tell_43 (by decide) (fun c_43 => ?_) (fun c_43 => ?_)
        ·
          replace c_43 := (not_congr (nI_eq (a := ki j) (b := 2) (by omega) (by omega))).mp c_43
          refine lv_aload_n hx hb dX3_tell_51 rfl (lv_at hl 1 rfl) ?_
          refine va_get (D := D) (ci := 3) (v := .ref (ad 3)) (C := RX3) (T := TX3) (N := 23) hx hb yX3 (fun _ h => h) hown hG.1 hP 0 rfl rfl 5 (by decide) f16 (fun _ h => h) rfl dX3_tell_52 ?_
          refine lv_iload_n hx hb dX3_tell_55 rfl (lv_at hl 2 rfl) ?_
          refine xaldN hx hb hG hP 3 rfl (j) rfl (by omega) (by decide) dX3_tell_56 ?_
          refine lv_istore_n (lv' := [(3, .int (nI (we j))), (2, .int (nI (ki j))), (0, .ref (ad 0)), (1, .int (nI j))]) hx hb dX3_tell_57 rfl hl (by decide) rfl (fun ls hl => ?_)
          refine lv_iload_n hx hb dX3_tell_58 rfl (lv_at hl 1 rfl) ?_
          refine lv_if_ne (tgt := 66) hx hb dX3_tell_59 (by decide) (fun c_59 => ?_) (fun c_59 => ?_)
          ·
            replace c_59 := (not_congr (nI_eq (a := ki j) (b := 0) (by omega) (by omega))).mp c_59
            refine lv_iload_n hx hb dX3_tell_66 rfl (lv_at hl 1 rfl) ?_
            refine lv_iconst (v := nI 1) hx hb dX3_tell_67 (by decide) ?_
            refine lv_icmp_ne (tgt := 78) hx hb dX3_tell_68 (by decide) (fun c_68 => ?_) (fun c_68 => ?_)
            ·
              replace c_68 := (not_congr (nI_eq (a := ki j) (b := 1) (by omega) (by omega))).mp c_68
              refine lv_iconst (v := nI 2) hx hb dX3_tell_78 (by decide) ?_
              refine lv_iload_n hx hb dX3_tell_79 rfl (lv_at hl 0 rfl) ?_
              refine xmulN hx hb dX3_tell_80 ?_
              refine lv_bipush (v := nI 100) hx hb dX3_tell_81 (by decide) ?_
              refine xaddN hx hb dX3_tell_83 ?_
              exact xretM hx hb hr hlk dX3_tell_84 hS () (by first | (simp [A_tell, tellV, c_5, hclj, c_19, c_28, c_43, c_59, c_68]; done) | (exfalso; omega) | (simp [A_tell, tellV, c_5, hclj, c_19, c_28, c_43, c_59, c_68]; congr 1; omega)) (fun t ht => by rw [ht]; rw [show S_tell n ki tr (nI j) = (tr1 (tr1 (tr1 tr 3) 2) 1) from by first | (simp [S_tell, tellT, c_5, hclj, c_19, c_28, c_43, c_59, c_68]; done) | (exfalso; omega)]; exact hP)
            ·
              replace c_68 := (nI_eq (a := ki j) (b := 1) (by omega) (by omega)).mp c_68
              refine lv_iload_n hx hb dX3_tell_71 rfl (lv_at hl 0 rfl) ?_
              refine lv_bipush (v := nI 100) hx hb dX3_tell_72 (by decide) ?_
              refine xaddN hx hb dX3_tell_74 ?_
              refine lv_goto (tgt := 84) hx hb dX3_tell_75 (by decide) ?_
              exact xretM hx hb hr hlk dX3_tell_84 hS () (by first | (simp [A_tell, tellV, c_5, hclj, c_19, c_28, c_43, c_59, c_68]; done) | (exfalso; omega) | (simp [A_tell, tellV, c_5, hclj, c_19, c_28, c_43, c_59, c_68]; congr 1; omega)) (fun t ht => by rw [ht]; rw [show S_tell n ki tr (nI j) = (tr1 (tr1 (tr1 tr 3) 2) 1) from by first | (simp [S_tell, tellT, c_5, hclj, c_19, c_28, c_43, c_59, c_68]; done) | (exfalso; omega)]; exact hP)
          ·
            replace c_59 := (nI_eq (a := ki j) (b := 0) (by omega) (by omega)).mp c_59
            refine lv_iload_n hx hb dX3_tell_62 rfl (lv_at hl 0 rfl) ?_
            refine lv_goto (tgt := 84) hx hb dX3_tell_63 (by decide) ?_
            exact xretM hx hb hr hlk dX3_tell_84 hS () (by first | (simp [A_tell, tellV, c_5, hclj, c_19, c_28, c_43, c_59]; done) | (exfalso; omega) | (simp [A_tell, tellV, c_5, hclj, c_19, c_28, c_43, c_59]; congr 1; omega)) (fun t ht => by rw [ht]; rw [show S_tell n ki tr (nI j) = (tr1 (tr1 (tr1 tr 3) 2) 1) from by first | (simp [S_tell, tellT, c_5, hclj, c_19, c_28, c_43, c_59]; done) | (exfalso; omega)]; exact hP)
        ·
          replace c_43 := (nI_eq (a := ki j) (b := 2) (by omega) (by omega)).mp c_43
          refine lv_aload_n hx hb dX3_tell_46 rfl (lv_at hl 1 rfl) ?_
          refine lv_iconst (v := nI 1) hx hb dX3_tell_47 (by decide) ?_
          refine xmuWv (va_runV (As := [.int (nI 1)]) (rest := []) hF (c_X3_traced l D cI cS ad fa n fo ki st we lo ra rch q0 q1 q2 q3 fk fc rd rc rv sh sle sla bg hd (tr1 (tr1 (tr1 tr 3) 2) 1) 1 hnd) (cwV 1 hts gX3_tell_X3_traced rfl rfl rfl hV_X3_traced ⟨Nat.le_of_ble_eq_true rfl, Nat.le_of_ble_eq_true rfl⟩) (PR.preV hG hP (ci := 3) rfl rfl) rfl rfl hl.1 rfl (lv_room (Nat.le_of_ble_eq_true rfl)) dX3_tell_48 ⟨Nat.le_refl _, Nat.le_refl _⟩) hD hS rfl (fun _ => rfl) (fun u_48 H locs q_48 hP hD hS => ?_)
          try dsimp only at q_48 hP hD
          have hP : va_P D vwCl (wM cI ad fa n fo ki st we lo ra rch q0 q1 q2 q3 fk fc rd rc rv sh sle sla bg hd (tr1 (tr1 (tr1 (tr1 tr 3) 2) 1) 1)) H := hP
          have hD : va_D (AW (adM ad)) (wM cI ad fa n fo ki st we lo ra rch q0 q1 q2 q3 fk fc rd rc rv sh sle sla bg hd (tr1 (tr1 (tr1 (tr1 tr 3) 2) 1) 1)) := hD
          refine lv_aload_n hx hb dX3_tell_51 rfl (lv_at hl 1 rfl) ?_
          refine va_get (D := D) (ci := 3) (v := .ref (ad 3)) (C := RX3) (T := TX3) (N := 23) hx hb yX3 (fun _ h => h) hown hG.1 hP 0 rfl rfl 5 (by decide) f16 (fun _ h => h) rfl dX3_tell_52 ?_
          refine lv_iload_n hx hb dX3_tell_55 rfl (lv_at hl 2 rfl) ?_
          refine xaldN hx hb hG hP 3 rfl (j) rfl (by omega) (by decide) dX3_tell_56 ?_
          refine lv_istore_n (lv' := [(3, .int (nI (we j))), (2, .int (nI (ki j))), (0, .ref (ad 0)), (1, .int (nI j))]) hx hb dX3_tell_57 rfl hl (by decide) rfl (fun ls hl => ?_)
          refine lv_iload_n hx hb dX3_tell_58 rfl (lv_at hl 1 rfl) ?_
          refine lv_if_ne (tgt := 66) hx hb dX3_tell_59 (by decide) (fun c_59 => ?_) (fun c_59 => ?_)
          ·
            replace c_59 := (not_congr (nI_eq (a := ki j) (b := 0) (by omega) (by omega))).mp c_59
            refine lv_iload_n hx hb dX3_tell_66 rfl (lv_at hl 1 rfl) ?_
            refine lv_iconst (v := nI 1) hx hb dX3_tell_67 (by decide) ?_
            refine lv_icmp_ne (tgt := 78) hx hb dX3_tell_68 (by decide) (fun c_68 => ?_) (fun c_68 => ?_)
            ·
              replace c_68 := (not_congr (nI_eq (a := ki j) (b := 1) (by omega) (by omega))).mp c_68
              refine lv_iconst (v := nI 2) hx hb dX3_tell_78 (by decide) ?_
              refine lv_iload_n hx hb dX3_tell_79 rfl (lv_at hl 0 rfl) ?_
              refine xmulN hx hb dX3_tell_80 ?_
              refine lv_bipush (v := nI 100) hx hb dX3_tell_81 (by decide) ?_
              refine xaddN hx hb dX3_tell_83 ?_
              exact xretM hx hb hr hlk dX3_tell_84 hS () (by first | (simp [A_tell, tellV, c_5, hclj, c_19, c_28, c_43, c_59, c_68]; done) | (exfalso; omega) | (simp [A_tell, tellV, c_5, hclj, c_19, c_28, c_43, c_59, c_68]; congr 1; omega)) (fun t ht => by rw [ht]; rw [show S_tell n ki tr (nI j) = (tr1 (tr1 (tr1 (tr1 tr 3) 2) 1) 1) from by first | (simp [S_tell, tellT, c_5, hclj, c_19, c_28, c_43, c_59, c_68]; done) | (exfalso; omega)]; exact hP)
            ·
              replace c_68 := (nI_eq (a := ki j) (b := 1) (by omega) (by omega)).mp c_68
              refine lv_iload_n hx hb dX3_tell_71 rfl (lv_at hl 0 rfl) ?_
              refine lv_bipush (v := nI 100) hx hb dX3_tell_72 (by decide) ?_
              refine xaddN hx hb dX3_tell_74 ?_
              refine lv_goto (tgt := 84) hx hb dX3_tell_75 (by decide) ?_
              exact xretM hx hb hr hlk dX3_tell_84 hS () (by first | (simp [A_tell, tellV, c_5, hclj, c_19, c_28, c_43, c_59, c_68]; done) | (exfalso; omega) | (simp [A_tell, tellV, c_5, hclj, c_19, c_28, c_43, c_59, c_68]; congr 1; omega)) (fun t ht => by rw [ht]; rw [show S_tell n ki tr (nI j) = (tr1 (tr1 (tr1 (tr1 tr 3) 2) 1) 1) from by first | (simp [S_tell, tellT, c_5, hclj, c_19, c_28, c_43, c_59, c_68]; done) | (exfalso; omega)]; exact hP)
          ·
            replace c_59 := (nI_eq (a := ki j) (b := 0) (by omega) (by omega)).mp c_59
            refine lv_iload_n hx hb dX3_tell_62 rfl (lv_at hl 0 rfl) ?_
            refine lv_goto (tgt := 84) hx hb dX3_tell_63 (by decide) ?_
            exact xretM hx hb hr hlk dX3_tell_84 hS () (by first | (simp [A_tell, tellV, c_5, hclj, c_19, c_28, c_43, c_59]; done) | (exfalso; omega) | (simp [A_tell, tellV, c_5, hclj, c_19, c_28, c_43, c_59]; congr 1; omega)) (fun t ht => by rw [ht]; rw [show S_tell n ki tr (nI j) = (tr1 (tr1 (tr1 (tr1 tr 3) 2) 1) 1) from by first | (simp [S_tell, tellT, c_5, hclj, c_19, c_28, c_43, c_59]; done) | (exfalso; omega)]; exact hP)
  ·
    replace c_5 := bI_n0.mp c_5
    replace c_5 := (by simpa using c_5 : (hasB n k) = false)
    refine lv_iconst (v := (-1)) hx hb dX3_tell_8 (by decide) ?_
    exact xretM hx hb hr hlk dX3_tell_9 hS () (by first | (simp [A_tell, tellV, c_5]; done) | (exfalso; omega) | (simp [A_tell, tellV, c_5]; congr 1; omega)) (fun t ht => by rw [ht]; rw [show S_tell n ki tr k = tr from by first | (simp [S_tell, tellT, c_5]; done) | (exfalso; omega)]; exact hP)

set_option maxHeartbeats 4000000 in
set_option maxRecDepth 100000 in
theorem c_X3_chalk (l : Launch) (D : va_G) (cI cS : ClassId) (ad : Nat → Nat) (fa : Nat) (n : Nat) (fo : Nat) (ki : Nat → Nat) (st : Nat → Nat) (we : Nat → Nat) (lo : Nat → Nat) (ra : Nat) (rch : Nat) (q0 : Nat → Int32) (q1 : Nat → Int32) (q2 : Nat → Int32) (q3 : Nat → Int32) (fk : Nat) (fc : Nat → Nat) (rd : Nat) (rc : Nat → Nat) (rv : Nat → Nat) (sh : Nat → Bool) (sle : Nat → Nat) (sla : Nat → Nat) (bg : Nat → Int32) (hd : Nat → Int32) (tr : Int32) (k : Int32) (hnd : nd (adM ad)) (hn : n ≤ 8) (hki : ∀ j, ki j ≤ 2) : Met l yX3_chalk wsX3_chalk ({ frames := 2, cells := 0, slots := 0, locals := 46 }) (PR D cI cS [.ref (ad 0), .int k] (wM cI ad fa n fo ki st we lo ra rch q0 q1 q2 q3 fk fc rd rc rv sh sle sla bg hd tr)) (va_Qi (fun r (zz : Unit) => r = A_chalk n ki k) (fun (zz : Unit) t => va_P D vwCl (wM cI ad fa n fo ki st we lo ra rch q0 q1 q2 q3 fk fc rd rc rv sh sle sla bg hd (S_chalk n ki tr k)) t.heap) (AW (adM ad))) 0 0 (AW (adM ad)) := by
  refine startM (by decide) rfl (Nat.le_of_ble_eq_true rfl) hnd rfl ?_
  intro p e s m below meth c hx hb hr hts hown hlk hml hG hP hD hS ls hl
  have hl : lv_has ls 2 [(0, .ref (ad 0)), (1, .int k)] := hl
  have f7 := hts (.fieldLink RX3 7 "ChairBallotModel" "kindOf" "[I") (by decide +kernel)
  have yX3 : ∀ w ∈ u_ws RX3 TX3 23, w.before _ s = true := fun w h => hts w ((by decide +kernel : ∀ w ∈ wsX30, w ∈ wsX3_chalk) w h)
  have hF : CallFix p m c cX3_chalk 2 s _ wsX3_chalk RX3 := ⟨hx, hb, hml, hown, hts⟩
  refine lv_aload_n hx hb dX3_chalk_0 rfl (lv_at hl 0 rfl) ?_
  refine lv_iload_n hx hb dX3_chalk_1 rfl (lv_at hl 1 rfl) ?_
  refine xrd (va_runV (As := [.int k]) (rest := []) hF (c_X3_noChair l D cI cS ad fa n fo ki st we lo ra rch q0 q1 q2 q3 fk fc rd rc rv sh sle sla bg hd tr k (by first | assumption | omega)) (cwV 1 hts gX3_chalk_X3_noChair rfl rfl rfl hV_X3_noChair ⟨Nat.le_of_ble_eq_true rfl, Nat.le_of_ble_eq_true rfl⟩) (PR.preV hG hP (ci := 3) rfl rfl) rfl rfl hl.1 rfl (lv_room (Nat.le_of_ble_eq_true rfl)) dX3_chalk_2 ⟨Nat.le_refl _, Nat.le_refl _⟩) ?_
  refine lv_if_eq (tgt := 10) hx hb dX3_chalk_5 (by decide) (fun c_5 => ?_) (fun c_5 => ?_)
  ·
    replace c_5 := bI_0.mp c_5
    replace c_5 := (by simpa using c_5 : (hasB n k) = true)
    obtain ⟨j, hj, rfl⟩ := hasB_t c_5
    have hclj := cl8 (j := j) (by omega)
    have hkj := hki j
    refine lv_aload_n hx hb dX3_chalk_10 rfl (lv_at hl 0 rfl) ?_
    refine lv_aload_n hx hb dX3_chalk_11 rfl (lv_at hl 0 rfl) ?_
    refine va_get (D := D) (ci := 3) (v := .ref (ad 1)) (C := RX3) (T := TX3) (N := 23) hx hb yX3 (fun _ h => h) hown hG.1 hP 0 rfl rfl 3 (by decide) f7 (fun _ h => h) rfl dX3_chalk_12 ?_
    refine lv_iload_n hx hb dX3_chalk_15 rfl (lv_at hl 1 rfl) ?_
    refine xaldN hx hb hG hP 1 rfl (j) rfl (by omega) (by decide) dX3_chalk_16 ?_
    refine lv_iconst (v := nI 2) hx hb dX3_chalk_17 (by decide) ?_
    refine lv_icmp_ne (tgt := 25) hx hb dX3_chalk_18 (by decide) (fun c_18 => ?_) (fun c_18 => ?_)
    ·
      replace c_18 := (not_congr (nI_eq (a := ki j) (b := 2) (by omega) (by omega))).mp c_18
      refine lv_iconst (v := nI 4) hx hb dX3_chalk_25 (by decide) ?_
      refine xmuWv (va_runV (As := [.int (nI 4)]) (rest := []) hF (c_X3_traced l D cI cS ad fa n fo ki st we lo ra rch q0 q1 q2 q3 fk fc rd rc rv sh sle sla bg hd tr 4 hnd) (cwV 1 hts gX3_chalk_X3_traced rfl rfl rfl hV_X3_traced ⟨Nat.le_of_ble_eq_true rfl, Nat.le_of_ble_eq_true rfl⟩) (PR.preV hG hP (ci := 3) rfl rfl) rfl rfl hl.1 rfl (lv_room (Nat.le_of_ble_eq_true rfl)) dX3_chalk_26 ⟨Nat.le_refl _, Nat.le_refl _⟩) hD hS rfl (fun _ => rfl) (fun u_26 H locs q_26 hP hD hS => ?_)
      try dsimp only at q_26 hP hD
      have hP : va_P D vwCl (wM cI ad fa n fo ki st we lo ra rch q0 q1 q2 q3 fk fc rd rc rv sh sle sla bg hd (tr1 tr 4)) H := hP
      have hD : va_D (AW (adM ad)) (wM cI ad fa n fo ki st we lo ra rch q0 q1 q2 q3 fk fc rd rc rv sh sle sla bg hd (tr1 tr 4)) := hD
      refine lv_aload_n hx hb dX3_chalk_29 rfl (lv_at hl 0 rfl) ?_
      refine va_get (D := D) (ci := 3) (v := .ref (ad 1)) (C := RX3) (T := TX3) (N := 23) hx hb yX3 (fun _ h => h) hown hG.1 hP 0 rfl rfl 3 (by decide) f7 (fun _ h => h) rfl dX3_chalk_30 ?_
      refine lv_iload_n hx hb dX3_chalk_33 rfl (lv_at hl 1 rfl) ?_
      refine xaldN hx hb hG hP 1 rfl (j) rfl (by omega) (by decide) dX3_chalk_34 ?_
      refine lv_iconst (v := nI 2) hx hb dX3_chalk_35 (by decide) ?_
      refine lv_icmp_ne (tgt := 44) hx hb dX3_chalk_36 (by decide) (fun c_36 => ?_) (fun c_36 => ?_)
      ·
        replace c_36 := (not_congr (nI_eq (a := ki j) (b := 2) (by omega) (by omega))).mp c_36
        refine lv_iload_n hx hb dX3_chalk_44 rfl (lv_at hl 1 rfl) ?_
        exact xretM hx hb hr hlk dX3_chalk_45 hS () (by first | (simp [A_chalk, c_5, hclj, c_18, c_36]; done) | (exfalso; omega)) (fun t ht => by rw [ht]; rw [show S_chalk n ki tr (nI j) = (tr1 tr 4) from by first | (simp [S_chalk, c_5, hclj, c_18, c_36]; done) | (exfalso; omega)]; exact hP)
      ·
        replace c_36 := (nI_eq (a := ki j) (b := 2) (by omega) (by omega)).mp c_36
        refine lv_bipush (v := nI 40) hx hb dX3_chalk_39 (by decide) ?_
        refine lv_goto (tgt := 45) hx hb dX3_chalk_41 (by decide) ?_
        exact xretM hx hb hr hlk dX3_chalk_45 hS () (by first | (simp [A_chalk, c_5, hclj, c_18, c_36]; done) | (exfalso; omega)) (fun t ht => by rw [ht]; rw [show S_chalk n ki tr (nI j) = (tr1 tr 4) from by first | (simp [S_chalk, c_5, hclj, c_18, c_36]; done) | (exfalso; omega)]; exact hP)
    ·
      replace c_18 := (nI_eq (a := ki j) (b := 2) (by omega) (by omega)).mp c_18
      refine lv_iconst (v := nI 5) hx hb dX3_chalk_21 (by decide) ?_
      refine lv_goto (tgt := 26) hx hb dX3_chalk_22 (by decide) ?_
      refine xmuWv (va_runV (As := [.int (nI 5)]) (rest := []) hF (c_X3_traced l D cI cS ad fa n fo ki st we lo ra rch q0 q1 q2 q3 fk fc rd rc rv sh sle sla bg hd tr 5 hnd) (cwV 1 hts gX3_chalk_X3_traced rfl rfl rfl hV_X3_traced ⟨Nat.le_of_ble_eq_true rfl, Nat.le_of_ble_eq_true rfl⟩) (PR.preV hG hP (ci := 3) rfl rfl) rfl rfl hl.1 rfl (lv_room (Nat.le_of_ble_eq_true rfl)) dX3_chalk_26 ⟨Nat.le_refl _, Nat.le_refl _⟩) hD hS rfl (fun _ => rfl) (fun u_26 H locs q_26 hP hD hS => ?_)
      try dsimp only at q_26 hP hD
      have hP : va_P D vwCl (wM cI ad fa n fo ki st we lo ra rch q0 q1 q2 q3 fk fc rd rc rv sh sle sla bg hd (tr1 tr 5)) H := hP
      have hD : va_D (AW (adM ad)) (wM cI ad fa n fo ki st we lo ra rch q0 q1 q2 q3 fk fc rd rc rv sh sle sla bg hd (tr1 tr 5)) := hD
      refine lv_aload_n hx hb dX3_chalk_29 rfl (lv_at hl 0 rfl) ?_
      refine va_get (D := D) (ci := 3) (v := .ref (ad 1)) (C := RX3) (T := TX3) (N := 23) hx hb yX3 (fun _ h => h) hown hG.1 hP 0 rfl rfl 3 (by decide) f7 (fun _ h => h) rfl dX3_chalk_30 ?_
      refine lv_iload_n hx hb dX3_chalk_33 rfl (lv_at hl 1 rfl) ?_
      refine xaldN hx hb hG hP 1 rfl (j) rfl (by omega) (by decide) dX3_chalk_34 ?_
      refine lv_iconst (v := nI 2) hx hb dX3_chalk_35 (by decide) ?_
      refine lv_icmp_ne (tgt := 44) hx hb dX3_chalk_36 (by decide) (fun c_36 => ?_) (fun c_36 => ?_)
      ·
        replace c_36 := (not_congr (nI_eq (a := ki j) (b := 2) (by omega) (by omega))).mp c_36
        refine lv_iload_n hx hb dX3_chalk_44 rfl (lv_at hl 1 rfl) ?_
        exact xretM hx hb hr hlk dX3_chalk_45 hS () (by first | (simp [A_chalk, c_5, hclj, c_18, c_36]; done) | (exfalso; omega)) (fun t ht => by rw [ht]; rw [show S_chalk n ki tr (nI j) = (tr1 tr 5) from by first | (simp [S_chalk, c_5, hclj, c_18, c_36]; done) | (exfalso; omega)]; exact hP)
      ·
        replace c_36 := (nI_eq (a := ki j) (b := 2) (by omega) (by omega)).mp c_36
        refine lv_bipush (v := nI 40) hx hb dX3_chalk_39 (by decide) ?_
        refine lv_goto (tgt := 45) hx hb dX3_chalk_41 (by decide) ?_
        exact xretM hx hb hr hlk dX3_chalk_45 hS () (by first | (simp [A_chalk, c_5, hclj, c_18, c_36]; done) | (exfalso; omega)) (fun t ht => by rw [ht]; rw [show S_chalk n ki tr (nI j) = (tr1 tr 5) from by first | (simp [S_chalk, c_5, hclj, c_18, c_36]; done) | (exfalso; omega)]; exact hP)
  ·
    replace c_5 := bI_n0.mp c_5
    replace c_5 := (by simpa using c_5 : (hasB n k) = false)
    refine lv_iconst (v := (-1)) hx hb dX3_chalk_8 (by decide) ?_
    exact xretM hx hb hr hlk dX3_chalk_9 hS () (by first | (simp [A_chalk, c_5]; done) | (exfalso; omega)) (fun t ht => by rw [ht]; rw [show S_chalk n ki tr k = tr from by first | (simp [S_chalk, c_5]; done) | (exfalso; omega)]; exact hP)

set_option maxHeartbeats 4000000 in
set_option maxRecDepth 100000 in
theorem c_X3_as (l : Launch) (D : va_G) (cI cS : ClassId) (ad : Nat → Nat) (fa : Nat) (n : Nat) (fo : Nat) (ki : Nat → Nat) (st : Nat → Nat) (we : Nat → Nat) (lo : Nat → Nat) (ra : Nat) (rch : Nat) (q0 : Nat → Int32) (q1 : Nat → Int32) (q2 : Nat → Int32) (q3 : Nat → Int32) (fk : Nat) (fc : Nat → Nat) (rd : Nat) (rc : Nat → Nat) (rv : Nat → Nat) (sh : Nat → Bool) (sle : Nat → Nat) (sla : Nat → Nat) (bg : Nat → Int32) (hd : Nat → Int32) (tr : Int32) (k : Int32) (v : Int32) (hnd : nd (adM ad)) (hn : n ≤ 8) (hki : ∀ j, ki j ≤ 2) : Met l yX3_as wsX3_as ({ frames := 2, cells := 0, slots := 0, locals := 46 }) (PR D cI cS [.ref (ad 0), .int k, .int v] (wM cI ad fa n fo ki st we lo ra rch q0 q1 q2 q3 fk fc rd rc rv sh sle sla bg hd tr)) (va_Qi (fun r (zz : Unit) => r = A_as n ki k v) (fun (zz : Unit) t => va_P D vwCl (wM cI ad (S_as n ki k v) n fo ki st we lo ra rch q0 q1 q2 q3 fk fc rd rc rv sh sle sla bg hd tr) t.heap) (AW (adM ad))) 0 0 (AW (adM ad)) := by
  refine startM (by decide) rfl (Nat.le_of_ble_eq_true rfl) hnd rfl ?_
  intro p e s m below meth c hx hb hr hts hown hlk hml hG hP hD hS ls hl
  have hl : lv_has ls 3 [(0, .ref (ad 0)), (1, .int k), (2, .int v)] := hl
  have f7 := hts (.fieldLink RX3 7 "ChairBallotModel" "kindOf" "[I") (by decide +kernel)
  have yX3 : ∀ w ∈ u_ws RX3 TX3 23, w.before _ s = true := fun w h => hts w ((by decide +kernel : ∀ w ∈ wsX30, w ∈ wsX3_as) w h)
  have hF : CallFix p m c cX3_as 3 s _ wsX3_as RX3 := ⟨hx, hb, hml, hown, hts⟩
  refine lv_aload_n hx hb dX3_as_0 rfl (lv_at hl 0 rfl) ?_
  refine lv_iload_n hx hb dX3_as_1 rfl (lv_at hl 1 rfl) ?_
  refine xrd (va_runV (As := [.int k]) (rest := []) hF (c_X3_noChair l D cI cS ad fa n fo ki st we lo ra rch q0 q1 q2 q3 fk fc rd rc rv sh sle sla bg hd tr k (by first | assumption | omega)) (cwV 1 hts gX3_as_X3_noChair rfl rfl rfl hV_X3_noChair ⟨Nat.le_of_ble_eq_true rfl, Nat.le_of_ble_eq_true rfl⟩) (PR.preV hG hP (ci := 3) rfl rfl) rfl rfl hl.1 rfl (lv_room (Nat.le_of_ble_eq_true rfl)) dX3_as_2 ⟨Nat.le_refl _, Nat.le_refl _⟩) ?_
  refine lv_if_eq (tgt := 14) hx hb dX3_as_5 (by decide) (fun c_5 => ?_) (fun c_5 => ?_)
  ·
    replace c_5 := bI_0.mp c_5
    replace c_5 := (by simpa using c_5 : (hasB n k) = true)
    obtain ⟨j, hj, rfl⟩ := hasB_t c_5
    have hclj := cl8 (j := j) (by omega)
    have hkj := hki j
    refine lv_iload_n hx hb dX3_as_14 rfl (lv_at hl 2 rfl) ?_
    refine lv_i2l (v := v.toInt64) hx hb dX3_as_15 rfl ?_
    refine lv_lconst (v := lN 0) hx hb dX3_as_16 rfl ?_
    refine lv_ldc2 (v := 2) hx hb hown (hts (.constantLong RX3 105 (2)) (by decide +kernel)) dX3_as_17 ?_
    refine xtopl (x' := lN 2) rfl ?_
    refine xrd (va_runS (As := [.long v.toInt64, .long (lN 0), .long (lN 2)]) (rest := []) hF (c_X3_in l D cI cS v 0 2 (by first | assumption | omega) (by first | assumption | omega)) (va_cwS 3 hts gX3_as_X3_in rfl rfl rfl hD_X3_in ⟨Nat.le_of_ble_eq_true rfl, Nat.le_of_ble_eq_true rfl⟩) (PR.pre hG (hP.sub (ws' := []) [] rfl)) rfl rfl hl.1 rfl (lv_room (Nat.le_of_ble_eq_true rfl)) dX3_as_20 ⟨Nat.le_refl _, Nat.le_refl _⟩) ?_
    refine xtop (x' := bI (rgB 0 2 v)) rfl ?_
    refine lv_if_ne (tgt := 33) hx hb dX3_as_23 (by decide) (fun c_23 => ?_) (fun c_23 => ?_)
    ·
      replace c_23 := bI_n0.mp c_23
      refine lv_aload_n hx hb dX3_as_33 rfl (lv_at hl 0 rfl) ?_
      refine va_get (D := D) (ci := 3) (v := .ref (ad 1)) (C := RX3) (T := TX3) (N := 23) hx hb yX3 (fun _ h => h) hown hG.1 hP 0 rfl rfl 3 (by decide) f7 (fun _ h => h) rfl dX3_as_34 ?_
      refine lv_iload_n hx hb dX3_as_37 rfl (lv_at hl 1 rfl) ?_
      refine xaldN hx hb hG hP 1 rfl (j) rfl (by omega) (by decide) dX3_as_38 ?_
      refine lv_iload_n hx hb dX3_as_39 rfl (lv_at hl 2 rfl) ?_
      refine lv_icmp_lt (tgt := 51) hx hb dX3_as_40 (by decide) (fun c_40 => ?_) (fun c_40 => ?_)
      ·
        replace c_40 : ((ki j : Nat) : Int) < v.toInt := (i32_gtc (b := ki j) (by omega)).mp c_40
        have hle : ¬ v.toInt ≤ (ki j : Int) := by omega
        refine lv_aload_n hx hb dX3_as_51 rfl (lv_at hl 0 rfl) ?_
        refine lv_iconst (v := nI 2) hx hb dX3_as_52 (by decide) ?_
        refine xmuW (va_runV (As := [.int (nI 2)]) (rest := []) hF (c_X3_failed l D cI cS ad fa n fo ki st we lo ra rch q0 q1 q2 q3 fk fc rd rc rv sh sle sla bg hd tr 2 hnd) (cwV 1 hts gX3_as_X3_failed rfl rfl rfl hV_X3_failed ⟨Nat.le_of_ble_eq_true rfl, Nat.le_of_ble_eq_true rfl⟩) (PR.preV hG hP (ci := 3) rfl rfl) rfl rfl hl.1 rfl (lv_room (Nat.le_of_ble_eq_true rfl)) dX3_as_53 ⟨Nat.le_refl _, Nat.le_refl _⟩) hD hS rfl (fun _ => rfl) (fun r_53 u_53 H locs q_53 hP hD hS => ?_)
        try dsimp only at q_53 hP hD
        have e_53 := q_53
        subst e_53
        have hP : va_P D vwCl (wM cI ad 2 n fo ki st we lo ra rch q0 q1 q2 q3 fk fc rd rc rv sh sle sla bg hd tr) H := hP
        have hD : va_D (AW (adM ad)) (wM cI ad 2 n fo ki st we lo ra rch q0 q1 q2 q3 fk fc rd rc rv sh sle sla bg hd tr) := hD
        exact xretM hx hb hr hlk dX3_as_56 hS () (by simp [A_as, c_5, hclj, c_23, c_40, hle]) (fun t ht => by rw [ht]; rw [show S_as n ki (nI j) v = 2 from by simp [S_as, c_5, hclj, c_23, c_40, hle]]; exact hP)
      ·
        replace c_40 : ¬ ((ki j : Nat) : Int) < v.toInt := (not_congr (i32_gtc (b := ki j) (by omega))).mp c_40
        have hle : v.toInt ≤ (ki j : Int) := by omega
        refine lv_aload_n hx hb dX3_as_43 rfl (lv_at hl 0 rfl) ?_
        refine lv_iconst (v := nI 1) hx hb dX3_as_44 (by decide) ?_
        refine xmuW (va_runV (As := [.int (nI 1)]) (rest := []) hF (c_X3_refused l D cI cS ad fa n fo ki st we lo ra rch q0 q1 q2 q3 fk fc rd rc rv sh sle sla bg hd tr (nI 1) hnd) (cwV 1 hts gX3_as_X3_refused rfl rfl rfl hV_X3_refused ⟨Nat.le_of_ble_eq_true rfl, Nat.le_of_ble_eq_true rfl⟩) (PR.preV hG hP (ci := 3) rfl rfl) rfl rfl hl.1 rfl (lv_room (Nat.le_of_ble_eq_true rfl)) dX3_as_45 ⟨Nat.le_refl _, Nat.le_refl _⟩) hD hS rfl (fun _ => rfl) (fun r_45 u_45 H locs q_45 hP hD hS => ?_)
        try dsimp only at q_45 hP hD
        have e_45 := q_45
        subst e_45
        have hP : va_P D vwCl (wM cI ad 0 n fo ki st we lo ra rch q0 q1 q2 q3 fk fc rd rc rv sh sle sla bg hd tr) H := hP
        have hD : va_D (AW (adM ad)) (wM cI ad 0 n fo ki st we lo ra rch q0 q1 q2 q3 fk fc rd rc rv sh sle sla bg hd tr) := hD
        refine lv_goto (tgt := 56) hx hb dX3_as_48 (by decide) ?_
        exact xretM hx hb hr hlk dX3_as_56 hS () (by simp [A_as, c_5, hclj, c_23, c_40, hle]) (fun t ht => by rw [ht]; rw [show S_as n ki (nI j) v = 0 from by simp [S_as, c_5, hclj, c_23, c_40, hle]]; exact hP)
    ·
      replace c_23 := bI_0.mp c_23
      refine lv_aload_n hx hb dX3_as_26 rfl (lv_at hl 0 rfl) ?_
      refine lv_bipush (v := (-2)) hx hb dX3_as_27 (by decide) ?_
      refine xmuW (va_runV (As := [.int (-2)]) (rest := []) hF (c_X3_refused l D cI cS ad fa n fo ki st we lo ra rch q0 q1 q2 q3 fk fc rd rc rv sh sle sla bg hd tr (-2) hnd) (cwV 1 hts gX3_as_X3_refused rfl rfl rfl hV_X3_refused ⟨Nat.le_of_ble_eq_true rfl, Nat.le_of_ble_eq_true rfl⟩) (PR.preV hG hP (ci := 3) rfl rfl) rfl rfl hl.1 rfl (lv_room (Nat.le_of_ble_eq_true rfl)) dX3_as_29 ⟨Nat.le_refl _, Nat.le_refl _⟩) hD hS rfl (fun _ => rfl) (fun r_29 u_29 H locs q_29 hP hD hS => ?_)
      try dsimp only at q_29 hP hD
      have e_29 := q_29
      subst e_29
      have hP : va_P D vwCl (wM cI ad 0 n fo ki st we lo ra rch q0 q1 q2 q3 fk fc rd rc rv sh sle sla bg hd tr) H := hP
      have hD : va_D (AW (adM ad)) (wM cI ad 0 n fo ki st we lo ra rch q0 q1 q2 q3 fk fc rd rc rv sh sle sla bg hd tr) := hD
      exact xretM hx hb hr hlk dX3_as_32 hS () (by simp [A_as, c_5, hclj, c_23]) (fun t ht => by rw [ht]; rw [show S_as n ki (nI j) v = 0 from by simp [S_as, c_5, hclj, c_23]]; exact hP)
  ·
    replace c_5 := bI_n0.mp c_5
    replace c_5 := (by simpa using c_5 : (hasB n k) = false)
    refine lv_aload_n hx hb dX3_as_8 rfl (lv_at hl 0 rfl) ?_
    refine lv_iconst (v := (-1)) hx hb dX3_as_9 (by decide) ?_
    refine xmuW (va_runV (As := [.int (-1)]) (rest := []) hF (c_X3_refused l D cI cS ad fa n fo ki st we lo ra rch q0 q1 q2 q3 fk fc rd rc rv sh sle sla bg hd tr (-1) hnd) (cwV 1 hts gX3_as_X3_refused rfl rfl rfl hV_X3_refused ⟨Nat.le_of_ble_eq_true rfl, Nat.le_of_ble_eq_true rfl⟩) (PR.preV hG hP (ci := 3) rfl rfl) rfl rfl hl.1 rfl (lv_room (Nat.le_of_ble_eq_true rfl)) dX3_as_10 ⟨Nat.le_refl _, Nat.le_refl _⟩) hD hS rfl (fun _ => rfl) (fun r_10 u_10 H locs q_10 hP hD hS => ?_)
    try dsimp only at q_10 hP hD
    have e_10 := q_10
    subst e_10
    have hP : va_P D vwCl (wM cI ad 0 n fo ki st we lo ra rch q0 q1 q2 q3 fk fc rd rc rv sh sle sla bg hd tr) H := hP
    have hD : va_D (AW (adM ad)) (wM cI ad 0 n fo ki st we lo ra rch q0 q1 q2 q3 fk fc rd rc rv sh sle sla bg hd tr) := hD
    exact xretM hx hb hr hlk dX3_as_13 hS () (by simp [A_as, c_5]) (fun t ht => by rw [ht]; rw [show S_as n ki k v = 0 from by simp [S_as, c_5]]; exact hP)

set_option maxHeartbeats 4000000 in
set_option maxRecDepth 100000 in
theorem c_X3_trace (l : Launch) (D : va_G) (cI cS : ClassId) (ad : Nat → Nat) (fa : Nat) (n : Nat) (fo : Nat) (ki : Nat → Nat) (st : Nat → Nat) (we : Nat → Nat) (lo : Nat → Nat) (ra : Nat) (rch : Nat) (q0 : Nat → Int32) (q1 : Nat → Int32) (q2 : Nat → Int32) (q3 : Nat → Int32) (fk : Nat) (fc : Nat → Nat) (rd : Nat) (rc : Nat → Nat) (rv : Nat → Nat) (sh : Nat → Bool) (sle : Nat → Nat) (sla : Nat → Nat) (bg : Nat → Int32) (hd : Nat → Int32) (tr : Int32)  : Met l yX3_trace wsX3_trace ({ frames := 0, cells := 0, slots := 0, locals := 0 }) (PR D cI cS [.ref (ad 0)] (wM cI ad fa n fo ki st we lo ra rch q0 q1 q2 q3 fk fc rd rc rv sh sle sla bg hd tr)) (vp_Si (fun r => r = tr)) 0 0 (fun _ => False) := by
  refine startR (by decide) rfl (Nat.le_of_ble_eq_true rfl) ?_
  intro p e s m below meth c hx hb hr hts hown hlk hml hG hP ls hl
  have hl : lv_has ls 1 [(0, .ref (ad 0))] := hl
  have f230 := hts (.fieldLink RX3 230 "ChairBallotModel" "traceNow" "I") (by decide +kernel)
  have yX3 : ∀ w ∈ u_ws RX3 TX3 23, w.before _ s = true := fun w h => hts w ((by decide +kernel : ∀ w ∈ wsX30, w ∈ wsX3_trace) w h)
  have hF : CallFix p m c cX3_trace 1 s _ wsX3_trace RX3 := ⟨hx, hb, hml, hown, hts⟩
  refine lv_aload_n hx hb dX3_trace_0 rfl (lv_at hl 0 rfl) ?_
  refine va_get (D := D) (ci := 3) (v := .int tr) (C := RX3) (T := TX3) (N := 23) hx hb yX3 (fun _ h => h) hown hG.1 hP 0 rfl rfl 22 (by decide) f230 (fun _ h => h) rfl dX3_trace_1 ?_
  exact xretR hx hb hr hlk dX3_trace_4 (by rfl)

set_option maxHeartbeats 4000000 in
set_option maxRecDepth 100000 in
theorem c_X3_fault (l : Launch) (D : va_G) (cI cS : ClassId) (ad : Nat → Nat) (fa : Nat) (n : Nat) (fo : Nat) (ki : Nat → Nat) (st : Nat → Nat) (we : Nat → Nat) (lo : Nat → Nat) (ra : Nat) (rch : Nat) (q0 : Nat → Int32) (q1 : Nat → Int32) (q2 : Nat → Int32) (q3 : Nat → Int32) (fk : Nat) (fc : Nat → Nat) (rd : Nat) (rc : Nat → Nat) (rv : Nat → Nat) (sh : Nat → Bool) (sle : Nat → Nat) (sla : Nat → Nat) (bg : Nat → Int32) (hd : Nat → Int32) (tr : Int32)  : Met l yX3_fault wsX3_fault ({ frames := 0, cells := 0, slots := 0, locals := 0 }) (PR D cI cS [.ref (ad 0)] (wM cI ad fa n fo ki st we lo ra rch q0 q1 q2 q3 fk fc rd rc rv sh sle sla bg hd tr)) (vp_Si (fun r => r = nI fa)) 0 0 (fun _ => False) := by
  refine startR (by decide) rfl (Nat.le_of_ble_eq_true rfl) ?_
  intro p e s m below meth c hx hb hr hts hown hlk hml hG hP ls hl
  have hl : lv_has ls 1 [(0, .ref (ad 0))] := hl
  have f57 := hts (.fieldLink RX3 57 "ChairBallotModel" "fault" "I") (by decide +kernel)
  have yX3 : ∀ w ∈ u_ws RX3 TX3 23, w.before _ s = true := fun w h => hts w ((by decide +kernel : ∀ w ∈ wsX30, w ∈ wsX3_fault) w h)
  have hF : CallFix p m c cX3_fault 1 s _ wsX3_fault RX3 := ⟨hx, hb, hml, hown, hts⟩
  refine lv_aload_n hx hb dX3_fault_0 rfl (lv_at hl 0 rfl) ?_
  refine va_get (D := D) (ci := 3) (v := .int (nI fa)) (C := RX3) (T := TX3) (N := 23) hx hb yX3 (fun _ h => h) hown hG.1 hP 0 rfl rfl 0 (by decide) f57 (fun _ h => h) rfl dX3_fault_1 ?_
  exact xretR hx hb hr hlk dX3_fault_4 (by rfl)

set_option maxHeartbeats 4000000 in
set_option maxRecDepth 100000 in
theorem c_X3_many (l : Launch) (D : va_G) (cI cS : ClassId) (ad : Nat → Nat) (fa : Nat) (n : Nat) (fo : Nat) (ki : Nat → Nat) (st : Nat → Nat) (we : Nat → Nat) (lo : Nat → Nat) (ra : Nat) (rch : Nat) (q0 : Nat → Int32) (q1 : Nat → Int32) (q2 : Nat → Int32) (q3 : Nat → Int32) (fk : Nat) (fc : Nat → Nat) (rd : Nat) (rc : Nat → Nat) (rv : Nat → Nat) (sh : Nat → Bool) (sle : Nat → Nat) (sla : Nat → Nat) (bg : Nat → Int32) (hd : Nat → Int32) (tr : Int32) (what : Int32) (hn : n ≤ 8) (hfo : fo < 256) (hki : ∀ j, ki j ≤ 2) (hwe : ∀ j, we j ≤ 9) (hst : ∀ j, st j ≤ 3) (hlo : ∀ j, lo j ≤ 3) : Met l yX3_many wsX3_many ({ frames := 3, cells := 0, slots := 0, locals := 66 }) (PR D cI cS [.ref (ad 0), .int what] (wM cI ad fa n fo ki st we lo ra rch q0 q1 q2 q3 fk fc rd rc rv sh sle sla bg hd tr)) (vp_Si (fun r => r = A_many n fo ki we rd what)) 0 0 (fun _ => False) := by
  refine startR (by decide) rfl (Nat.le_of_ble_eq_true rfl) ?_
  intro p e s m below meth c hx hb hr hts hown hlk hml hG hP ls hl
  have hl : lv_has ls 2 [(0, .ref (ad 0)), (1, .int what)] := hl
  have f65 := hts (.fieldLink RX3 65 "ChairBallotModel" "chairs" "I") (by decide +kernel)
  have f114 := hts (.fieldLink RX3 114 "ChairBallotModel" "folded" "I") (by decide +kernel)
  have f117 := hts (.fieldLink RX3 117 "ChairBallotModel" "readings" "I") (by decide +kernel)
  have yX3 : ∀ w ∈ u_ws RX3 TX3 23, w.before _ s = true := fun w h => hts w ((by decide +kernel : ∀ w ∈ wsX30, w ∈ wsX3_many) w h)
  have hF : CallFix p m c cX3_many 2 s _ wsX3_many RX3 := ⟨hx, hb, hml, hown, hts⟩
  have h2n := two_pow_le hn
  have h1n : 1 ≤ 2 ^ n := Nat.one_le_two_pow
  refine lv_iload_n hx hb dX3_many_0 rfl (lv_at hl 1 rfl) ?_
  by_cases c_1_0 : what = nI 0
  ·
    refine lv_tableIn (off := 31) (tgt := 32) hx hb dX3_many_1 (by rw [c_1_0]; decide) (by rw [c_1_0]; decide) (by rw [c_1_0]; decide) (by decide) ?_
    refine lv_aload_n hx hb dX3_many_32 rfl (lv_at hl 0 rfl) ?_
    refine va_get (D := D) (ci := 3) (v := .int (nI n)) (C := RX3) (T := TX3) (N := 23) hx hb yX3 (fun _ h => h) hown hG.1 hP 0 rfl rfl 1 (by decide) f65 (fun _ h => h) rfl dX3_many_33 ?_
    exact xretR hx hb hr hlk dX3_many_36 (by simp [A_many, nIeq, c_1_0])
  by_cases c_1_1 : what = nI 1
  ·
    refine lv_tableIn (off := 36) (tgt := 37) hx hb dX3_many_1 (by rw [c_1_1]; decide) (by rw [c_1_1]; decide) (by rw [c_1_1]; decide) (by decide) ?_
    refine lv_aload_n hx hb dX3_many_37 rfl (lv_at hl 0 rfl) ?_
    refine va_get (D := D) (ci := 3) (v := .int (nI fo)) (C := RX3) (T := TX3) (N := 23) hx hb yX3 (fun _ h => h) hown hG.1 hP 0 rfl rfl 2 (by decide) f114 (fun _ h => h) rfl dX3_many_38 ?_
    refine xrd (va_runS (As := [.int (nI fo)]) (rest := []) hF (c_X3_bits l D cI cS fo (by first | assumption | omega)) (va_cwS 1 hts gX3_many_X3_bits rfl rfl rfl hD_X3_bits ⟨Nat.le_of_ble_eq_true rfl, Nat.le_of_ble_eq_true rfl⟩) (PR.pre hG (hP.sub (ws' := []) [] rfl)) rfl rfl hl.1 rfl (lv_room (Nat.le_of_ble_eq_true rfl)) dX3_many_41 ⟨Nat.le_refl _, Nat.le_refl _⟩) ?_
    exact xretR hx hb hr hlk dX3_many_44 (by simp [A_many, nIeq, c_1_1])
  by_cases c_1_2 : what = nI 2
  ·
    refine lv_tableIn (off := 44) (tgt := 45) hx hb dX3_many_1 (by rw [c_1_2]; decide) (by rw [c_1_2]; decide) (by rw [c_1_2]; decide) (by decide) ?_
    refine lv_aload_n hx hb dX3_many_45 rfl (lv_at hl 0 rfl) ?_
    refine lv_aload_n hx hb dX3_many_46 rfl (lv_at hl 0 rfl) ?_
    refine xrd (va_runV (As := []) (rest := [.ref (ad 0)]) hF (c_X3_everyChair l D cI cS ad fa n fo ki st we lo ra rch q0 q1 q2 q3 fk fc rd rc rv sh sle sla bg hd tr (by first | assumption | omega)) (cwV 0 hts gX3_many_X3_everyChair rfl rfl rfl hV_X3_everyChair ⟨Nat.le_of_ble_eq_true rfl, Nat.le_of_ble_eq_true rfl⟩) (PR.preV hG hP (ci := 3) rfl rfl) rfl rfl hl.1 rfl (lv_room (Nat.le_of_ble_eq_true rfl)) dX3_many_47 ⟨Nat.le_refl _, Nat.le_refl _⟩) ?_
    refine xrd (va_runV (As := [.int (nI (2 ^ n - 1))]) (rest := []) hF (c_X3_votesIn l D cI cS ad fa n fo ki st we lo ra rch q0 q1 q2 q3 fk fc rd rc rv sh sle sla bg hd tr (2 ^ n - 1) (by first | assumption | omega) (by first | assumption | omega) (by first | assumption | omega) (by first | assumption | omega) (by first | assumption | omega)) (cwV 1 hts gX3_many_X3_votesIn rfl rfl rfl hV_X3_votesIn ⟨Nat.le_of_ble_eq_true rfl, Nat.le_of_ble_eq_true rfl⟩) (PR.preV hG hP (ci := 3) rfl rfl) rfl rfl hl.1 rfl (lv_room (Nat.le_of_ble_eq_true rfl)) dX3_many_50 ⟨Nat.le_refl _, Nat.le_refl _⟩) ?_
    refine xtop (x' := nI (sumN (voN fo ki we) n)) (by exact congrArg nI viT_all) ?_
    exact xretR hx hb hr hlk dX3_many_53 (by simp [A_many, nIeq, c_1_2])
  by_cases c_1_3 : what = nI 3
  ·
    refine lv_tableIn (off := 53) (tgt := 54) hx hb dX3_many_1 (by rw [c_1_3]; decide) (by rw [c_1_3]; decide) (by rw [c_1_3]; decide) (by decide) ?_
    refine lv_aload_n hx hb dX3_many_54 rfl (lv_at hl 0 rfl) ?_
    refine va_get (D := D) (ci := 3) (v := .int (nI rd)) (C := RX3) (T := TX3) (N := 23) hx hb yX3 (fun _ h => h) hown hG.1 hP 0 rfl rfl 15 (by decide) f117 (fun _ h => h) rfl dX3_many_55 ?_
    exact xretR hx hb hr hlk dX3_many_58 (by simp [A_many, nIeq, c_1_3])
  refine lv_tableOut (tgt := 59) hx hb dX3_many_1 (by exact xtabN (N := 4) (by decide) (fun j hj => by match j, hj with | 0, _ => exact c_1_0 | 1, _ => exact c_1_1 | 2, _ => exact c_1_2 | 3, _ => exact c_1_3)) (by decide) ?_
  refine lv_bipush (v := (-2)) hx hb dX3_many_59 (by decide) ?_
  exact xretR hx hb hr hlk dX3_many_61 (by simp [A_many, nIeq, c_1_0, c_1_1, c_1_2, c_1_3])

set_option maxHeartbeats 4000000 in
set_option maxRecDepth 100000 in
theorem c_X3_votesBy (l : Launch) (D : va_G) (cI cS : ClassId) (ad : Nat → Nat) (fa : Nat) (n : Nat) (fo : Nat) (ki : Nat → Nat) (st : Nat → Nat) (we : Nat → Nat) (lo : Nat → Nat) (ra : Nat) (rch : Nat) (q0 : Nat → Int32) (q1 : Nat → Int32) (q2 : Nat → Int32) (q3 : Nat → Int32) (fk : Nat) (fc : Nat → Nat) (rd : Nat) (rc : Nat → Nat) (rv : Nat → Nat) (sh : Nat → Bool) (sle : Nat → Nat) (sla : Nat → Nat) (bg : Nat → Int32) (hd : Nat → Int32) (tr : Int32) (s1 : Nat) (hn : n ≤ 8) (hfo : fo < 256) (hki : ∀ j, ki j ≤ 2) (hwe : ∀ j, we j ≤ 9) (hst : ∀ j, st j ≤ 3) (hs : s1 < 256) : Met l yX3_votesBy wsX3_votesBy ({ frames := 2, cells := 0, slots := 0, locals := 43 }) (PR D cI cS [.ref (ad 0), .int (nI s1)] (wM cI ad fa n fo ki st we lo ra rch q0 q1 q2 q3 fk fc rd rc rv sh sle sla bg hd tr)) (vp_Si (fun r => r = nI (pwT n fo ki st we s1))) 0 0 (fun _ => False) := by
  refine startR (by decide) rfl (Nat.le_of_ble_eq_true rfl) ?_
  intro p e s m below meth c hx hb hr hts hown hlk hml hG hP ls hl
  have hl : lv_has ls 4 [(0, .ref (ad 0)), (1, .int (nI s1))] := hl
  have f65 := hts (.fieldLink RX3 65 "ChairBallotModel" "chairs" "I") (by decide +kernel)
  have f13 := hts (.fieldLink RX3 13 "ChairBallotModel" "stripeOf" "[I") (by decide +kernel)
  have yX3 : ∀ w ∈ u_ws RX3 TX3 23, w.before _ s = true := fun w h => hts w ((by decide +kernel : ∀ w ∈ wsX30, w ∈ wsX3_votesBy) w h)
  have hF : CallFix p m c cX3_votesBy 4 s _ wsX3_votesBy RX3 := ⟨hx, hb, hml, hown, hts⟩
  refine lv_iconst (v := nI 0) hx hb dX3_votesBy_0 (by decide) ?_
  refine lv_istore_n (lv' := [(2, .int (nI 0)), (0, .ref (ad 0)), (1, .int (nI s1))]) hx hb dX3_votesBy_1 rfl hl (by decide) rfl (fun ls hl => ?_)
  refine lv_iconst (v := nI 0) hx hb dX3_votesBy_2 (by decide) ?_
  refine lv_istore_n (lv' := [(3, .int (nI 0)), (2, .int (nI 0)), (0, .ref (ad 0)), (1, .int (nI s1))]) hx hb dX3_votesBy_3 rfl hl (by decide) rfl (fun ls hl => ?_)
  have K4 : ∀ (fuel : Nat) (i : Nat) (x2 : Int32), x2 = nI (sumN (vsN s1 st fo ki we) i) → (i ≤ n) → (n - i) < fuel → ∀ ls : Array Slot, lv_has ls 4 [(3, .int (nI i)), (2, .int x2), (0, .ref (ad 0)), (1, .int (nI s1))] → W p l e ({ frames := 2, cells := 0, slots := 0, locals := 43 }) s m (([.ref (ad 0), .int (nI s1)] : List Value).toArray) below meth c s.heap [] 0 0 (MQ below (vp_Si (fun r => r = nI (pwT n fo ki st we s1))) (([.ref (ad 0), .int (nI s1)] : List Value).toArray) s 0 0 (fun _ => False)) (F0 m 4 ls []) := by
    intro fuel
    induction fuel with
    | zero => intro i x2 e_x2 hi hmu; exact absurd hmu (Nat.not_lt_zero _)
    | succ fuel ih =>
      intro i x2 e_x2 hi hmu ls hl
      subst e_x2
      have hsi := hst i
      refine lv_iload_n hx hb dX3_votesBy_4 rfl (lv_at hl 0 rfl) ?_
      refine lv_aload_n hx hb dX3_votesBy_5 rfl (lv_at hl 2 rfl) ?_
      refine va_get (D := D) (ci := 3) (v := .int (nI n)) (C := RX3) (T := TX3) (N := 23) hx hb yX3 (fun _ h => h) hown hG.1 hP 0 rfl rfl 1 (by decide) f65 (fun _ h => h) rfl dX3_votesBy_6 ?_
      refine lv_icmp_ge (tgt := 43) hx hb dX3_votesBy_9 (by decide) (fun c_9 => ?_) (fun c_9 => ?_)
      ·
        replace c_9 := (nI_leI (a := n) (b := i) (by omega) (by omega)).mp c_9
        have hin : n = i := by omega
        subst hin
        refine lv_iload_n hx hb dX3_votesBy_43 rfl (lv_at hl 1 rfl) ?_
        exact xretR hx hb hr hlk dX3_votesBy_44 (by rfl)
      ·
        replace c_9 := (not_congr (nI_leI (a := n) (b := i) (by omega) (by omega))).mp c_9
        refine lv_iload_n hx hb dX3_votesBy_12 rfl (lv_at hl 1 rfl) ?_
        refine lv_iload_n hx hb dX3_votesBy_13 rfl (lv_at hl 3 rfl) ?_
        refine lv_aload_n hx hb dX3_votesBy_14 rfl (lv_at hl 2 rfl) ?_
        refine va_get (D := D) (ci := 3) (v := .ref (ad 2)) (C := RX3) (T := TX3) (N := 23) hx hb yX3 (fun _ h => h) hown hG.1 hP 0 rfl rfl 4 (by decide) f13 (fun _ h => h) rfl dX3_votesBy_15 ?_
        refine lv_iload_n hx hb dX3_votesBy_18 rfl (lv_at hl 0 rfl) ?_
        refine xaldN hx hb hG hP 2 rfl (i) rfl (by omega) (by decide) dX3_votesBy_19 ?_
        refine xrd (va_runS (As := [.int (nI s1), .int (nI (st i))]) (rest := [.int (nI (sumN (vsN s1 st fo ki we) i))]) hF (c_X3_isIn l D cI cS s1 (st i) (by first | assumption | omega) (by first | assumption | omega)) (va_cwS 2 hts gX3_votesBy_X3_isIn rfl rfl rfl hD_X3_isIn ⟨Nat.le_of_ble_eq_true rfl, Nat.le_of_ble_eq_true rfl⟩) (PR.pre hG (hP.sub (ws' := []) [] rfl)) rfl rfl hl.1 rfl (lv_room (Nat.le_of_ble_eq_true rfl)) dX3_votesBy_20 ⟨Nat.le_refl _, Nat.le_refl _⟩) ?_
        refine lv_if_eq (tgt := 34) hx hb dX3_votesBy_23 (by decide) (fun c_23 => ?_) (fun c_23 => ?_)
        ·
          replace c_23 := bI_0.mp c_23
          refine lv_iconst (v := nI 0) hx hb dX3_votesBy_34 (by decide) ?_
          refine xaddN hx hb dX3_votesBy_35 ?_
          refine lv_istore_n (lv' := [(2, .int (nI (sumN (vsN s1 st fo ki we) i + 0))), (3, .int (nI i)), (0, .ref (ad 0)), (1, .int (nI s1))]) hx hb dX3_votesBy_36 rfl hl (by decide) rfl (fun ls hl => ?_)
          refine lv_iinc (v := nI (i + 1)) (lv' := [(3, .int (nI (i + 1))), (2, .int (nI (sumN (vsN s1 st fo ki we) i + 0))), (0, .ref (ad 0)), (1, .int (nI s1))]) hx hb dX3_votesBy_37 hl (k := 1) rfl xinc1 (by decide) rfl (fun ls hl => ?_)
          refine lv_goto (tgt := 4) hx hb dX3_votesBy_40 (by decide) ?_
          exact ih (i + 1) (nI (sumN (vsN s1 st fo ki we) i + 0)) (by simp [sumN, vsN, c_9, c_23]) (by omega) (by omega) ls (lv_sub hl [0, 1, 2, 3] rfl)
        ·
          replace c_23 := bI_n0.mp c_23
          refine lv_aload_n hx hb dX3_votesBy_26 rfl (lv_at hl 2 rfl) ?_
          refine lv_iload_n hx hb dX3_votesBy_27 rfl (lv_at hl 0 rfl) ?_
          refine xrd (va_runV (As := [.int (nI i)]) (rest := [.int (nI (sumN (vsN s1 st fo ki we) i))]) hF (c_X3_votesOf l D cI cS ad fa n fo ki st we lo ra rch q0 q1 q2 q3 fk fc rd rc rv sh sle sla bg hd tr i (by first | assumption | omega) (by first | assumption | omega) (by first | assumption | omega) (by first | assumption | omega) (by first | assumption | omega)) (cwV 1 hts gX3_votesBy_X3_votesOf rfl rfl rfl hV_X3_votesOf ⟨Nat.le_of_ble_eq_true rfl, Nat.le_of_ble_eq_true rfl⟩) (PR.preV hG hP (ci := 3) rfl rfl) rfl rfl hl.1 rfl (lv_room (Nat.le_of_ble_eq_true rfl)) dX3_votesBy_28 ⟨Nat.le_refl _, Nat.le_refl _⟩) ?_
          refine lv_goto (tgt := 35) hx hb dX3_votesBy_31 (by decide) ?_
          refine xaddN hx hb dX3_votesBy_35 ?_
          refine lv_istore_n (lv' := [(2, .int (nI (sumN (vsN s1 st fo ki we) i + voN fo ki we i))), (3, .int (nI i)), (0, .ref (ad 0)), (1, .int (nI s1))]) hx hb dX3_votesBy_36 rfl hl (by decide) rfl (fun ls hl => ?_)
          refine lv_iinc (v := nI (i + 1)) (lv' := [(3, .int (nI (i + 1))), (2, .int (nI (sumN (vsN s1 st fo ki we) i + voN fo ki we i))), (0, .ref (ad 0)), (1, .int (nI s1))]) hx hb dX3_votesBy_37 hl (k := 1) rfl xinc1 (by decide) rfl (fun ls hl => ?_)
          refine lv_goto (tgt := 4) hx hb dX3_votesBy_40 (by decide) ?_
          exact ih (i + 1) (nI (sumN (vsN s1 st fo ki we) i + voN fo ki we i)) (by simp [sumN, vsN, c_9, c_23]) (by omega) (by omega) ls (lv_sub hl [0, 1, 2, 3] rfl)
  exact K4 _ 0 (nI 0) (by first | rfl | exact Nat.zero_le _ | omega | assumption) (by first | rfl | exact Nat.zero_le _ | omega | assumption) (Nat.lt_succ_self _) ls (lv_sub hl [0, 1, 2, 3] rfl)

set_option maxHeartbeats 4000000 in
set_option maxRecDepth 100000 in
theorem c_X3_power (l : Launch) (D : va_G) (cI cS : ClassId) (ad : Nat → Nat) (fa : Nat) (n : Nat) (fo : Nat) (ki : Nat → Nat) (st : Nat → Nat) (we : Nat → Nat) (lo : Nat → Nat) (ra : Nat) (rch : Nat) (q0 : Nat → Int32) (q1 : Nat → Int32) (q2 : Nat → Int32) (q3 : Nat → Int32) (fk : Nat) (fc : Nat → Nat) (rd : Nat) (rc : Nat → Nat) (rv : Nat → Nat) (sh : Nat → Bool) (sle : Nat → Nat) (sla : Nat → Nat) (bg : Nat → Int32) (hd : Nat → Int32) (tr : Int32) (k : Int32) (v : Int32) (hn : n ≤ 8) (hfo : fo < 256) (hki : ∀ j, ki j ≤ 2) (hwe : ∀ j, we j ≤ 9) (hst : ∀ j, st j ≤ 3) (hlo : ∀ j, lo j ≤ 3) : Met l yX3_power wsX3_power ({ frames := 3, cells := 0, slots := 0, locals := 66 }) (PR D cI cS [.ref (ad 0), .int k, .int v] (wM cI ad fa n fo ki st we lo ra rch q0 q1 q2 q3 fk fc rd rc rv sh sle sla bg hd tr)) (vp_Sl (fun r => r = A_power n fo ki st we k v)) 0 0 (fun _ => False) := by
  refine startR (by decide) rfl (Nat.le_of_ble_eq_true rfl) ?_
  intro p e s m below meth c hx hb hr hts hown hlk hml hG hP ls hl
  have hl : lv_has ls 8 [(0, .ref (ad 0)), (1, .int k), (2, .int v)] := hl
  have f65 := hts (.fieldLink RX3 65 "ChairBallotModel" "chairs" "I") (by decide +kernel)
  have yX3 : ∀ w ∈ u_ws RX3 TX3 23, w.before _ s = true := fun w h => hts w ((by decide +kernel : ∀ w ∈ wsX30, w ∈ wsX3_power) w h)
  have hF : CallFix p m c cX3_power 8 s _ wsX3_power RX3 := ⟨hx, hb, hml, hown, hts⟩
  refine lv_iload_n hx hb dX3_power_0 rfl (lv_at hl 1 rfl) ?_
  refine lv_i2l (v := k.toInt64) hx hb dX3_power_1 rfl ?_
  refine lv_lconst (v := lN 0) hx hb dX3_power_2 rfl ?_
  refine lv_ldc2 (v := 3) hx hb hown (hts (.constantLong RX3 138 (3)) (by decide +kernel)) dX3_power_3 ?_
  refine xtopl (x' := lN 3) rfl ?_
  refine xrd (va_runS (As := [.long k.toInt64, .long (lN 0), .long (lN 3)]) (rest := []) hF (c_X3_in l D cI cS k 0 3 (by first | assumption | omega) (by first | assumption | omega)) (va_cwS 3 hts gX3_power_X3_in rfl rfl rfl hD_X3_in ⟨Nat.le_of_ble_eq_true rfl, Nat.le_of_ble_eq_true rfl⟩) (PR.pre hG (hP.sub (ws' := []) [] rfl)) rfl rfl hl.1 rfl (lv_room (Nat.le_of_ble_eq_true rfl)) dX3_power_6 ⟨Nat.le_refl _, Nat.le_refl _⟩) ?_
  refine xtop (x' := bI (rgB 0 3 k)) rfl ?_
  refine lv_if_eq (tgt := 29) hx hb dX3_power_9 (by decide) (fun c_9 => ?_) (fun c_9 => ?_)
  ·
    replace c_9 := bI_0.mp c_9
    refine xrdl (va_runS (As := []) (rest := []) hF (c_X3_lost l D cI cS  ) (va_cwS 0 hts gX3_power_X3_lost rfl rfl rfl hD_X3_lost ⟨Nat.le_of_ble_eq_true rfl, Nat.le_of_ble_eq_true rfl⟩) (PR.pre hG (hP.sub (ws' := []) [] rfl)) rfl rfl hl.1 rfl (lv_room (Nat.le_of_ble_eq_true rfl)) dX3_power_29 ⟨Nat.le_refl _, Nat.le_refl _⟩) ?_
    exact xretRl hx hb hr hlk dX3_power_32 (by simp [A_power, c_9])
  ·
    replace c_9 := bI_n0.mp c_9
    obtain ⟨t, ht0, ht1, rfl⟩ := rgB_nat (by decide) c_9
    have hclt := cl8 (j := t) (by omega)
    refine lv_iload_n hx hb dX3_power_12 rfl (lv_at hl 2 rfl) ?_
    refine lv_i2l (v := v.toInt64) hx hb dX3_power_13 rfl ?_
    refine lv_lconst (v := lN 0) hx hb dX3_power_14 rfl ?_
    refine lv_lconst (v := lN 1) hx hb dX3_power_15 rfl ?_
    refine xrd (va_runS (As := [.long v.toInt64, .long (lN 0), .long (lN 1)]) (rest := []) hF (c_X3_in l D cI cS v 0 1 (by first | assumption | omega) (by first | assumption | omega)) (va_cwS 3 hts gX3_power_X3_in rfl rfl rfl hD_X3_in ⟨Nat.le_of_ble_eq_true rfl, Nat.le_of_ble_eq_true rfl⟩) (PR.pre hG (hP.sub (ws' := []) [] rfl)) rfl rfl hl.1 rfl (lv_room (Nat.le_of_ble_eq_true rfl)) dX3_power_16 ⟨Nat.le_refl _, Nat.le_refl _⟩) ?_
    refine xtop (x' := bI (rgB 0 1 v)) rfl ?_
    refine lv_if_eq (tgt := 29) hx hb dX3_power_19 (by decide) (fun c_19 => ?_) (fun c_19 => ?_)
    ·
      replace c_19 := bI_0.mp c_19
      refine xrdl (va_runS (As := []) (rest := []) hF (c_X3_lost l D cI cS  ) (va_cwS 0 hts gX3_power_X3_lost rfl rfl rfl hD_X3_lost ⟨Nat.le_of_ble_eq_true rfl, Nat.le_of_ble_eq_true rfl⟩) (PR.pre hG (hP.sub (ws' := []) [] rfl)) rfl rfl hl.1 rfl (lv_room (Nat.le_of_ble_eq_true rfl)) dX3_power_29 ⟨Nat.le_refl _, Nat.le_refl _⟩) ?_
      exact xretRl hx hb hr hlk dX3_power_32 (by simp [A_power, c_9, hclt, c_19])
    ·
      replace c_19 := bI_n0.mp c_19
      obtain ⟨w, hw0, hw1, rfl⟩ := rgB_nat (by decide) c_19
      have hclw := cl8 (j := w) (by omega)
      refine lv_aload_n hx hb dX3_power_22 rfl (lv_at hl 0 rfl) ?_
      refine va_get (D := D) (ci := 3) (v := .int (nI n)) (C := RX3) (T := TX3) (N := 23) hx hb yX3 (fun _ h => h) hown hG.1 hP 0 rfl rfl 1 (by decide) f65 (fun _ h => h) rfl dX3_power_23 ?_
      refine lv_if_ne (tgt := 33) hx hb dX3_power_26 (by decide) (fun c_26 => ?_) (fun c_26 => ?_)
      ·
        replace c_26 := (not_congr (nI_eq (a := n) (b := 0) (by omega) (by omega))).mp c_26
        have hdn : decide (0 < n) = true := decide_eq_true (by omega)
        refine lv_aload_n hx hb dX3_power_33 rfl (lv_at hl 0 rfl) ?_
        refine lv_bipush (v := nI 15) hx hb dX3_power_34 (by decide) ?_
        refine xrd (va_runV (As := [.int (nI 15)]) (rest := []) hF (c_X3_votesBy l D cI cS ad fa n fo ki st we lo ra rch q0 q1 q2 q3 fk fc rd rc rv sh sle sla bg hd tr 15 (by first | assumption | omega) (by first | assumption | omega) (by first | assumption | omega) (by first | assumption | omega) (by first | assumption | omega) (by first | omega | (have h9 := or16 (s := i) (t := t) (by omega) (by omega); omega))) (cwV 1 hts gX3_power_X3_votesBy rfl rfl rfl hV_X3_votesBy ⟨Nat.le_of_ble_eq_true rfl, Nat.le_of_ble_eq_true rfl⟩) (PR.preV hG hP (ci := 3) rfl rfl) rfl rfl hl.1 rfl (lv_room (Nat.le_of_ble_eq_true rfl)) dX3_power_36 ⟨Nat.le_refl _, Nat.le_refl _⟩) ?_
        refine lv_istore_n (lv' := [(3, .int (nI (pwT n fo ki st we 15))), (0, .ref (ad 0)), (1, .int (nI t)), (2, .int (nI w))]) hx hb dX3_power_39 rfl hl (by decide) rfl (fun ls hl => ?_)
        refine lv_lconst (v := lN 0) hx hb dX3_power_40 rfl ?_
        refine lv_lstore (lv' := [(4, .long (lN 0)), (3, .int (nI (pwT n fo ki st we 15))), (0, .ref (ad 0)), (1, .int (nI t)), (2, .int (nI w))]) hx hb dX3_power_41 hl (by decide) rfl (fun ls hl => ?_)
        refine lv_iconst (v := nI 0) hx hb dX3_power_43 (by decide) ?_
        refine lv_istore (lv' := [(6, .int (nI 0)), (4, .long (lN 0)), (3, .int (nI (pwT n fo ki st we 15))), (0, .ref (ad 0)), (1, .int (nI t)), (2, .int (nI w))]) hx hb dX3_power_44 hl (by decide) rfl (fun ls hl => ?_)
        have K46 : ∀ (fuel : Nat) (i : Nat) (x4 : Int64), x4 = lN (cntN (pwP n fo ki st we t) i) → (i ≤ 16) → (16 - i) < fuel → ∀ ls : Array Slot, lv_has ls 8 [(6, .int (nI i)), (4, .long x4), (3, .int (nI (pwT n fo ki st we 15))), (0, .ref (ad 0)), (1, .int (nI t)), (2, .int (nI w))] → W p l e ({ frames := 3, cells := 0, slots := 0, locals := 66 }) s m (([.ref (ad 0), .int (nI t), .int (nI w)] : List Value).toArray) below meth c s.heap [] 0 0 (MQ below (vp_Sl (fun r => r = A_power n fo ki st we (nI t) (nI w))) (([.ref (ad 0), .int (nI t), .int (nI w)] : List Value).toArray) s 0 0 (fun _ => False)) (F0 m 46 ls []) := by
          intro fuel
          induction fuel with
          | zero => intro i x4 e_x4 hi hmu; exact absurd hmu (Nat.not_lt_zero _)
          | succ fuel ih =>
            intro i x4 e_x4 hi hmu ls hl
            subst e_x4
            have hp1 := pwT_le (fo := fo) (ki := ki) (st := st) hwe hn i
            have hp2 := pwT_le (fo := fo) (ki := ki) (st := st) hwe hn (i ||| 2 ^ t)
            have hp3 := pwT_le (fo := fo) (ki := ki) (st := st) hwe hn 15
            refine lv_iload hx hb dX3_power_46 (lv_at hl 0 rfl) ?_
            refine lv_bipush (v := nI 16) hx hb dX3_power_48 (by decide) ?_
            refine lv_icmp_ge (tgt := 118) hx hb dX3_power_50 (by decide) (fun c_50 => ?_) (fun c_50 => ?_)
            ·
              replace c_50 := (nI_leI (a := 16) (b := i) (by omega) (by omega)).mp c_50
              have hin : 16 = i := by omega
              subst hin
              refine lv_lload hx hb dX3_power_118 (lv_at hl 1 rfl) ?_
              refine lv_ldc2 (v := 8) hx hb hown (hts (.constantLong RX3 197 (8)) (by decide +kernel)) dX3_power_120 ?_
              refine xtopl (x' := lN 8) rfl ?_
              refine lv_iload_n hx hb dX3_power_123 rfl (lv_at hl 5 rfl) ?_
              refine xrdl (va_runS (As := [.long (lN (cntN (pwP n fo ki st we t) 16)), .long (lN 8), .int (nI w)]) (rest := []) hF (c_X3_share l D cI cS (cntN (pwP n fo ki st we t) 16) 8 w (by have h9 := cntN_le (pwP n fo ki st we t) 16; omega) (by first | assumption | omega) (by first | assumption | omega) (by first | assumption | omega)) (va_cwS 3 hts gX3_power_X3_share rfl rfl rfl hD_X3_share ⟨Nat.le_of_ble_eq_true rfl, Nat.le_of_ble_eq_true rfl⟩) (PR.pre hG (hP.sub (ws' := []) [] rfl)) rfl rfl hl.1 rfl (lv_room (Nat.le_of_ble_eq_true rfl)) dX3_power_124 ⟨Nat.le_refl _, Nat.le_refl _⟩) ?_
              exact xretRl hx hb hr hlk dX3_power_127 (by simp [A_power, c_9, hclt, c_19, hclw, c_26, hdn, c_50])
            ·
              replace c_50 := (not_congr (nI_leI (a := 16) (b := i) (by omega) (by omega))).mp c_50
              refine lv_iload hx hb dX3_power_53 (lv_at hl 0 rfl) ?_
              refine lv_iload_n hx hb dX3_power_55 rfl (lv_at hl 4 rfl) ?_
              refine xrd (va_runS (As := [.int (nI i), .int (nI t)]) (rest := []) hF (c_X3_isIn l D cI cS i t (by first | assumption | omega) (by first | assumption | omega)) (va_cwS 2 hts gX3_power_X3_isIn rfl rfl rfl hD_X3_isIn ⟨Nat.le_of_ble_eq_true rfl, Nat.le_of_ble_eq_true rfl⟩) (PR.pre hG (hP.sub (ws' := []) [] rfl)) rfl rfl hl.1 rfl (lv_room (Nat.le_of_ble_eq_true rfl)) dX3_power_56 ⟨Nat.le_refl _, Nat.le_refl _⟩) ?_
              refine lv_if_ne (tgt := 66) hx hb dX3_power_59 (by decide) (fun c_59 => ?_) (fun c_59 => ?_)
              ·
                replace c_59 := bI_n0.mp c_59
                refine lv_iconst (v := nI 0) hx hb dX3_power_66 (by decide) ?_
                refine lv_istore (lv' := [(7, .int (nI 0)), (6, .int (nI i)), (4, .long (lN (cntN (pwP n fo ki st we t) i))), (3, .int (nI (pwT n fo ki st we 15))), (0, .ref (ad 0)), (1, .int (nI t)), (2, .int (nI w))]) hx hb dX3_power_67 hl (by decide) rfl (fun ls hl => ?_)
                refine lv_lload hx hb dX3_power_69 (lv_at hl 2 rfl) ?_
                refine lv_iload hx hb dX3_power_71 (lv_at hl 0 rfl) ?_
                refine lv_if_eq (tgt := 108) hx hb dX3_power_73 (by decide) (fun c_73 => ?_) (fun c_73 => ?_)
                ·
                  refine lv_lconst (v := lN 0) hx hb dX3_power_108 rfl ?_
                  refine xladdN hx hb dX3_power_109 ?_
                  refine lv_lstore (lv' := [(4, .long (lN ((cntN (pwP n fo ki st we t) i) + 0))), (7, .int (nI 0)), (6, .int (nI i)), (3, .int (nI (pwT n fo ki st we 15))), (0, .ref (ad 0)), (1, .int (nI t)), (2, .int (nI w))]) hx hb dX3_power_110 hl (by decide) rfl (fun ls hl => ?_)
                  refine lv_iinc (v := nI (i + 1)) (lv' := [(6, .int (nI (i + 1))), (4, .long (lN ((cntN (pwP n fo ki st we t) i) + 0))), (7, .int (nI 0)), (3, .int (nI (pwT n fo ki st we 15))), (0, .ref (ad 0)), (1, .int (nI t)), (2, .int (nI w))]) hx hb dX3_power_112 hl (k := 2) rfl xinc1 (by decide) rfl (fun ls hl => ?_)
                  refine lv_goto (tgt := 46) hx hb dX3_power_115 (by decide) ?_
                  exact ih (i + 1) (lN ((cntN (pwP n fo ki st we t) i) + 0)) (by rw [cnt_n (P := pwP n fo ki st we t) (pw_b c_59), Nat.add_zero]) (by omega) (by omega) ls (lv_sub hl [0, 1, 3, 4, 5, 6] rfl)
                · exact absurd (by decide) c_73
              ·
                replace c_59 := bI_0.mp c_59
                refine lv_iconst (v := nI 1) hx hb dX3_power_62 (by decide) ?_
                refine lv_goto (tgt := 67) hx hb dX3_power_63 (by decide) ?_
                refine lv_istore (lv' := [(7, .int (nI 1)), (6, .int (nI i)), (4, .long (lN (cntN (pwP n fo ki st we t) i))), (3, .int (nI (pwT n fo ki st we 15))), (0, .ref (ad 0)), (1, .int (nI t)), (2, .int (nI w))]) hx hb dX3_power_67 hl (by decide) rfl (fun ls hl => ?_)
                refine lv_lload hx hb dX3_power_69 (lv_at hl 2 rfl) ?_
                refine lv_iload hx hb dX3_power_71 (lv_at hl 0 rfl) ?_
                refine lv_if_eq (tgt := 108) hx hb dX3_power_73 (by decide) (fun c_73 => ?_) (fun c_73 => ?_)
                · exact absurd c_73 (by decide)
                ·
                  refine lv_iconst (v := nI 2) hx hb dX3_power_76 (by decide) ?_
                  refine lv_aload_n hx hb dX3_power_77 rfl (lv_at hl 4 rfl) ?_
                  refine lv_iload hx hb dX3_power_78 (lv_at hl 1 rfl) ?_
                  refine xrd (va_runV (As := [.int (nI i)]) (rest := [.int (nI 2), .long (lN (cntN (pwP n fo ki st we t) i))]) hF (c_X3_votesBy l D cI cS ad fa n fo ki st we lo ra rch q0 q1 q2 q3 fk fc rd rc rv sh sle sla bg hd tr i (by first | assumption | omega) (by first | assumption | omega) (by first | assumption | omega) (by first | assumption | omega) (by first | assumption | omega) (by first | omega | (have h9 := or16 (s := i) (t := t) (by omega) (by omega); omega))) (cwV 1 hts gX3_power_X3_votesBy rfl rfl rfl hV_X3_votesBy ⟨Nat.le_of_ble_eq_true rfl, Nat.le_of_ble_eq_true rfl⟩) (PR.preV hG hP (ci := 3) rfl rfl) rfl rfl hl.1 rfl (lv_room (Nat.le_of_ble_eq_true rfl)) dX3_power_80 ⟨Nat.le_refl _, Nat.le_refl _⟩) ?_
                  refine xmulN hx hb dX3_power_83 ?_
                  refine lv_iload_n hx hb dX3_power_84 rfl (lv_at hl 3 rfl) ?_
                  refine lv_icmp_gt (tgt := 108) hx hb dX3_power_85 (by decide) (fun c_85 => ?_) (fun c_85 => ?_)
                  ·
                    replace c_85 := (nI_ltI (a := pwT n fo ki st we 15) (b := 2 * (pwT n fo ki st we i)) (by omega) (by omega)).mp c_85
                    refine lv_lconst (v := lN 0) hx hb dX3_power_108 rfl ?_
                    refine xladdN hx hb dX3_power_109 ?_
                    refine lv_lstore (lv' := [(4, .long (lN ((cntN (pwP n fo ki st we t) i) + 0))), (7, .int (nI 1)), (6, .int (nI i)), (3, .int (nI (pwT n fo ki st we 15))), (0, .ref (ad 0)), (1, .int (nI t)), (2, .int (nI w))]) hx hb dX3_power_110 hl (by decide) rfl (fun ls hl => ?_)
                    refine lv_iinc (v := nI (i + 1)) (lv' := [(6, .int (nI (i + 1))), (4, .long (lN ((cntN (pwP n fo ki st we t) i) + 0))), (7, .int (nI 1)), (3, .int (nI (pwT n fo ki st we 15))), (0, .ref (ad 0)), (1, .int (nI t)), (2, .int (nI w))]) hx hb dX3_power_112 hl (k := 2) rfl xinc1 (by decide) rfl (fun ls hl => ?_)
                    refine lv_goto (tgt := 46) hx hb dX3_power_115 (by decide) ?_
                    exact ih (i + 1) (lN ((cntN (pwP n fo ki st we t) i) + 0)) (by rw [cnt_n (P := pwP n fo ki st we t) (pw_2 (by omega)), Nat.add_zero]) (by omega) (by omega) ls (lv_sub hl [0, 1, 3, 4, 5, 6] rfl)
                  ·
                    replace c_85 := (not_congr (nI_ltI (a := pwT n fo ki st we 15) (b := 2 * (pwT n fo ki st we i)) (by omega) (by omega))).mp c_85
                    refine lv_iconst (v := nI 2) hx hb dX3_power_88 (by decide) ?_
                    refine lv_aload_n hx hb dX3_power_89 rfl (lv_at hl 4 rfl) ?_
                    refine lv_iload hx hb dX3_power_90 (lv_at hl 1 rfl) ?_
                    refine lv_iconst (v := nI 1) hx hb dX3_power_92 (by decide) ?_
                    refine lv_iload_n hx hb dX3_power_93 rfl (lv_at hl 5 rfl) ?_
                    refine lv_ishl hx hb dX3_power_94 ?_
                    refine xtop (x' := nI (2 ^ t)) (by exact shl1 t (by omega)) ?_
                    refine lv_ior hx hb dX3_power_95 ?_
                    refine xtop (x' := nI (i ||| (2 ^ t))) (nI_or _ _) ?_
                    refine xrd (va_runV (As := [.int (nI (i ||| (2 ^ t)))]) (rest := [.int (nI 2), .long (lN (cntN (pwP n fo ki st we t) i))]) hF (c_X3_votesBy l D cI cS ad fa n fo ki st we lo ra rch q0 q1 q2 q3 fk fc rd rc rv sh sle sla bg hd tr (i ||| (2 ^ t)) (by first | assumption | omega) (by first | assumption | omega) (by first | assumption | omega) (by first | assumption | omega) (by first | assumption | omega) (by first | omega | (have h9 := or16 (s := i) (t := t) (by omega) (by omega); omega))) (cwV 1 hts gX3_power_X3_votesBy rfl rfl rfl hV_X3_votesBy ⟨Nat.le_of_ble_eq_true rfl, Nat.le_of_ble_eq_true rfl⟩) (PR.preV hG hP (ci := 3) rfl rfl) rfl rfl hl.1 rfl (lv_room (Nat.le_of_ble_eq_true rfl)) dX3_power_96 ⟨Nat.le_refl _, Nat.le_refl _⟩) ?_
                    refine xmulN hx hb dX3_power_99 ?_
                    refine lv_iload_n hx hb dX3_power_100 rfl (lv_at hl 3 rfl) ?_
                    refine lv_icmp_le (tgt := 108) hx hb dX3_power_101 (by decide) (fun c_101 => ?_) (fun c_101 => ?_)
                    ·
                      replace c_101 := (nI_leI (a := 2 * (pwT n fo ki st we (i ||| (2 ^ t)))) (b := pwT n fo ki st we 15) (by omega) (by omega)).mp c_101
                      refine lv_lconst (v := lN 0) hx hb dX3_power_108 rfl ?_
                      refine xladdN hx hb dX3_power_109 ?_
                      refine lv_lstore (lv' := [(4, .long (lN ((cntN (pwP n fo ki st we t) i) + 0))), (7, .int (nI 1)), (6, .int (nI i)), (3, .int (nI (pwT n fo ki st we 15))), (0, .ref (ad 0)), (1, .int (nI t)), (2, .int (nI w))]) hx hb dX3_power_110 hl (by decide) rfl (fun ls hl => ?_)
                      refine lv_iinc (v := nI (i + 1)) (lv' := [(6, .int (nI (i + 1))), (4, .long (lN ((cntN (pwP n fo ki st we t) i) + 0))), (7, .int (nI 1)), (3, .int (nI (pwT n fo ki st we 15))), (0, .ref (ad 0)), (1, .int (nI t)), (2, .int (nI w))]) hx hb dX3_power_112 hl (k := 2) rfl xinc1 (by decide) rfl (fun ls hl => ?_)
                      refine lv_goto (tgt := 46) hx hb dX3_power_115 (by decide) ?_
                      exact ih (i + 1) (lN ((cntN (pwP n fo ki st we t) i) + 0)) (by rw [cnt_n (P := pwP n fo ki st we t) (pw_3 (by omega)), Nat.add_zero]) (by omega) (by omega) ls (lv_sub hl [0, 1, 3, 4, 5, 6] rfl)
                    ·
                      replace c_101 := (not_congr (nI_leI (a := 2 * (pwT n fo ki st we (i ||| (2 ^ t)))) (b := pwT n fo ki st we 15) (by omega) (by omega))).mp c_101
                      refine lv_lconst (v := lN 1) hx hb dX3_power_104 rfl ?_
                      refine lv_goto (tgt := 109) hx hb dX3_power_105 (by decide) ?_
                      refine xladdN hx hb dX3_power_109 ?_
                      refine lv_lstore (lv' := [(4, .long (lN ((cntN (pwP n fo ki st we t) i) + 1))), (7, .int (nI 1)), (6, .int (nI i)), (3, .int (nI (pwT n fo ki st we 15))), (0, .ref (ad 0)), (1, .int (nI t)), (2, .int (nI w))]) hx hb dX3_power_110 hl (by decide) rfl (fun ls hl => ?_)
                      refine lv_iinc (v := nI (i + 1)) (lv' := [(6, .int (nI (i + 1))), (4, .long (lN ((cntN (pwP n fo ki st we t) i) + 1))), (7, .int (nI 1)), (3, .int (nI (pwT n fo ki st we 15))), (0, .ref (ad 0)), (1, .int (nI t)), (2, .int (nI w))]) hx hb dX3_power_112 hl (k := 2) rfl xinc1 (by decide) rfl (fun ls hl => ?_)
                      refine lv_goto (tgt := 46) hx hb dX3_power_115 (by decide) ?_
                      exact ih (i + 1) (lN ((cntN (pwP n fo ki st we t) i) + 1)) (by rw [cnt_y (P := pwP n fo ki st we t) (pw_z c_59 (by omega) (by omega))]) (by omega) (by omega) ls (lv_sub hl [0, 1, 3, 4, 5, 6] rfl)
        exact K46 _ 0 (lN 0) (by first | rfl | exact Nat.zero_le _ | omega | assumption) (by first | rfl | exact Nat.zero_le _ | omega | assumption) (Nat.lt_succ_self _) ls (lv_sub hl [0, 1, 2, 3, 4, 5] rfl)
      ·
        replace c_26 := (nI_eq (a := n) (b := 0) (by omega) (by omega)).mp c_26
        have hdn : decide (0 < n) = false := decide_eq_false (by omega)
        refine xrdl (va_runS (As := []) (rest := []) hF (c_X3_lost l D cI cS  ) (va_cwS 0 hts gX3_power_X3_lost rfl rfl rfl hD_X3_lost ⟨Nat.le_of_ble_eq_true rfl, Nat.le_of_ble_eq_true rfl⟩) (PR.pre hG (hP.sub (ws' := []) [] rfl)) rfl rfl hl.1 rfl (lv_room (Nat.le_of_ble_eq_true rfl)) dX3_power_29 ⟨Nat.le_refl _, Nat.le_refl _⟩) ?_
        exact xretRl hx hb hr hlk dX3_power_32 (by simp [A_power, c_9, hclt, c_19, hclw, c_26, hdn])

set_option maxHeartbeats 4000000 in
set_option maxRecDepth 100000 in
theorem c_X3_moreBy (l : Launch) (D : va_G) (cI cS : ClassId) (ad : Nat → Nat) (fa : Nat) (n : Nat) (fo : Nat) (ki : Nat → Nat) (st : Nat → Nat) (we : Nat → Nat) (lo : Nat → Nat) (ra : Nat) (rch : Nat) (q0 : Nat → Int32) (q1 : Nat → Int32) (q2 : Nat → Int32) (q3 : Nat → Int32) (fk : Nat) (fc : Nat → Nat) (rd : Nat) (rc : Nat → Nat) (rv : Nat → Nat) (sh : Nat → Bool) (sle : Nat → Nat) (sla : Nat → Nat) (bg : Nat → Int32) (hd : Nat → Int32) (tr : Int32) (s1 : Nat) (hn : n ≤ 8) (hfo : fo < 256) (hki : ∀ j, ki j ≤ 2) (hwe : ∀ j, we j ≤ 9) (hs : s1 < 256) : Met l yX3_moreBy wsX3_moreBy ({ frames := 2, cells := 0, slots := 0, locals := 43 }) (PR D cI cS [.ref (ad 0), .int (nI s1)] (wM cI ad fa n fo ki st we lo ra rch q0 q1 q2 q3 fk fc rd rc rv sh sle sla bg hd tr)) (vp_Si (fun r => r = zI (mrZ n fo ki we s1))) 0 0 (fun _ => False) := by
  refine startR (by decide) rfl (Nat.le_of_ble_eq_true rfl) ?_
  intro p e s m below meth c hx hb hr hts hown hlk hml hG hP ls hl
  have hl : lv_has ls 4 [(0, .ref (ad 0)), (1, .int (nI s1))] := hl
  have f65 := hts (.fieldLink RX3 65 "ChairBallotModel" "chairs" "I") (by decide +kernel)
  have yX3 : ∀ w ∈ u_ws RX3 TX3 23, w.before _ s = true := fun w h => hts w ((by decide +kernel : ∀ w ∈ wsX30, w ∈ wsX3_moreBy) w h)
  have hF : CallFix p m c cX3_moreBy 4 s _ wsX3_moreBy RX3 := ⟨hx, hb, hml, hown, hts⟩
  refine lv_iconst (v := nI 0) hx hb dX3_moreBy_0 (by decide) ?_
  refine lv_istore_n (lv' := [(2, .int (nI 0)), (0, .ref (ad 0)), (1, .int (nI s1))]) hx hb dX3_moreBy_1 rfl hl (by decide) rfl (fun ls hl => ?_)
  refine lv_iconst (v := nI 0) hx hb dX3_moreBy_2 (by decide) ?_
  refine lv_istore_n (lv' := [(3, .int (nI 0)), (2, .int (nI 0)), (0, .ref (ad 0)), (1, .int (nI s1))]) hx hb dX3_moreBy_3 rfl hl (by decide) rfl (fun ls hl => ?_)
  have K4 : ∀ (fuel : Nat) (i : Nat) (x2 : Int32), x2 = zI (mrZ i fo ki we s1) → (i ≤ n) → (n - i) < fuel → ∀ ls : Array Slot, lv_has ls 4 [(3, .int (nI i)), (2, .int x2), (0, .ref (ad 0)), (1, .int (nI s1))] → W p l e ({ frames := 2, cells := 0, slots := 0, locals := 43 }) s m (([.ref (ad 0), .int (nI s1)] : List Value).toArray) below meth c s.heap [] 0 0 (MQ below (vp_Si (fun r => r = zI (mrZ n fo ki we s1))) (([.ref (ad 0), .int (nI s1)] : List Value).toArray) s 0 0 (fun _ => False)) (F0 m 4 ls []) := by
    intro fuel
    induction fuel with
    | zero => intro i x2 e_x2 hi hmu; exact absurd hmu (Nat.not_lt_zero _)
    | succ fuel ih =>
      intro i x2 e_x2 hi hmu ls hl
      subst e_x2
      refine lv_iload_n hx hb dX3_moreBy_4 rfl (lv_at hl 0 rfl) ?_
      refine lv_aload_n hx hb dX3_moreBy_5 rfl (lv_at hl 2 rfl) ?_
      refine va_get (D := D) (ci := 3) (v := .int (nI n)) (C := RX3) (T := TX3) (N := 23) hx hb yX3 (fun _ h => h) hown hG.1 hP 0 rfl rfl 1 (by decide) f65 (fun _ h => h) rfl dX3_moreBy_6 ?_
      refine lv_icmp_ge (tgt := 43) hx hb dX3_moreBy_9 (by decide) (fun c_9 => ?_) (fun c_9 => ?_)
      ·
        replace c_9 := (nI_leI (a := n) (b := i) (by omega) (by omega)).mp c_9
        have hin : n = i := by omega
        subst hin
        refine lv_iload_n hx hb dX3_moreBy_43 rfl (lv_at hl 1 rfl) ?_
        exact xretR hx hb hr hlk dX3_moreBy_44 (by rfl)
      ·
        replace c_9 := (not_congr (nI_leI (a := n) (b := i) (by omega) (by omega))).mp c_9
        refine lv_iload_n hx hb dX3_moreBy_12 rfl (lv_at hl 1 rfl) ?_
        refine lv_iload_n hx hb dX3_moreBy_13 rfl (lv_at hl 3 rfl) ?_
        refine lv_iload_n hx hb dX3_moreBy_14 rfl (lv_at hl 0 rfl) ?_
        refine xrd (va_runS (As := [.int (nI s1), .int (nI i)]) (rest := [.int (zI (mrZ i fo ki we s1))]) hF (c_X3_isIn l D cI cS s1 i (by first | assumption | omega) (by first | assumption | omega)) (va_cwS 2 hts gX3_moreBy_X3_isIn rfl rfl rfl hD_X3_isIn ⟨Nat.le_of_ble_eq_true rfl, Nat.le_of_ble_eq_true rfl⟩) (PR.pre hG (hP.sub (ws' := []) [] rfl)) rfl rfl hl.1 rfl (lv_room (Nat.le_of_ble_eq_true rfl)) dX3_moreBy_15 ⟨Nat.le_refl _, Nat.le_refl _⟩) ?_
        refine lv_if_eq (tgt := 29) hx hb dX3_moreBy_18 (by decide) (fun c_18 => ?_) (fun c_18 => ?_)
        ·
          replace c_18 := bI_0.mp c_18
          refine lv_aload_n hx hb dX3_moreBy_29 rfl (lv_at hl 2 rfl) ?_
          refine lv_iload_n hx hb dX3_moreBy_30 rfl (lv_at hl 0 rfl) ?_
          refine xrd (va_runV (As := [.int (nI i)]) (rest := [.int (zI (mrZ i fo ki we s1))]) hF (c_X3_votesOf l D cI cS ad fa n fo ki st we lo ra rch q0 q1 q2 q3 fk fc rd rc rv sh sle sla bg hd tr i (by first | assumption | omega) (by first | assumption | omega) (by first | assumption | omega) (by first | assumption | omega) (by first | assumption | omega)) (cwV 1 hts gX3_moreBy_X3_votesOf rfl rfl rfl hV_X3_votesOf ⟨Nat.le_of_ble_eq_true rfl, Nat.le_of_ble_eq_true rfl⟩) (PR.preV hG hP (ci := 3) rfl rfl) rfl rfl hl.1 rfl (lv_room (Nat.le_of_ble_eq_true rfl)) dX3_moreBy_31 ⟨Nat.le_refl _, Nat.le_refl _⟩) ?_
          refine lv_ineg hx hb dX3_moreBy_34 ?_
          refine lv_iadd hx hb dX3_moreBy_35 ?_
          refine lv_istore_n (lv' := [(2, .int ((zI (mrZ i fo ki we s1)) + (-(nI (voN fo ki we i))))), (3, .int (nI i)), (0, .ref (ad 0)), (1, .int (nI s1))]) hx hb dX3_moreBy_36 rfl hl (by decide) rfl (fun ls hl => ?_)
          refine lv_iinc (v := nI (i + 1)) (lv' := [(3, .int (nI (i + 1))), (2, .int ((zI (mrZ i fo ki we s1)) + (-(nI (voN fo ki we i))))), (0, .ref (ad 0)), (1, .int (nI s1))]) hx hb dX3_moreBy_37 hl (k := 1) rfl xinc1 (by decide) rfl (fun ls hl => ?_)
          refine lv_goto (tgt := 4) hx hb dX3_moreBy_40 (by decide) ?_
          exact ih (i + 1) ((zI (mrZ i fo ki we s1)) + (-(nI (voN fo ki we i)))) (by first | (exact mr_y c_18) | (exact mr_n c_18)) (by omega) (by omega) ls (lv_sub hl [0, 1, 2, 3] rfl)
        ·
          replace c_18 := bI_n0.mp c_18
          refine lv_aload_n hx hb dX3_moreBy_21 rfl (lv_at hl 2 rfl) ?_
          refine lv_iload_n hx hb dX3_moreBy_22 rfl (lv_at hl 0 rfl) ?_
          refine xrd (va_runV (As := [.int (nI i)]) (rest := [.int (zI (mrZ i fo ki we s1))]) hF (c_X3_votesOf l D cI cS ad fa n fo ki st we lo ra rch q0 q1 q2 q3 fk fc rd rc rv sh sle sla bg hd tr i (by first | assumption | omega) (by first | assumption | omega) (by first | assumption | omega) (by first | assumption | omega) (by first | assumption | omega)) (cwV 1 hts gX3_moreBy_X3_votesOf rfl rfl rfl hV_X3_votesOf ⟨Nat.le_of_ble_eq_true rfl, Nat.le_of_ble_eq_true rfl⟩) (PR.preV hG hP (ci := 3) rfl rfl) rfl rfl hl.1 rfl (lv_room (Nat.le_of_ble_eq_true rfl)) dX3_moreBy_23 ⟨Nat.le_refl _, Nat.le_refl _⟩) ?_
          refine lv_goto (tgt := 35) hx hb dX3_moreBy_26 (by decide) ?_
          refine lv_iadd hx hb dX3_moreBy_35 ?_
          refine lv_istore_n (lv' := [(2, .int ((zI (mrZ i fo ki we s1)) + (nI (voN fo ki we i)))), (3, .int (nI i)), (0, .ref (ad 0)), (1, .int (nI s1))]) hx hb dX3_moreBy_36 rfl hl (by decide) rfl (fun ls hl => ?_)
          refine lv_iinc (v := nI (i + 1)) (lv' := [(3, .int (nI (i + 1))), (2, .int ((zI (mrZ i fo ki we s1)) + (nI (voN fo ki we i)))), (0, .ref (ad 0)), (1, .int (nI s1))]) hx hb dX3_moreBy_37 hl (k := 1) rfl xinc1 (by decide) rfl (fun ls hl => ?_)
          refine lv_goto (tgt := 4) hx hb dX3_moreBy_40 (by decide) ?_
          exact ih (i + 1) ((zI (mrZ i fo ki we s1)) + (nI (voN fo ki we i))) (by first | (exact mr_y c_18) | (exact mr_n c_18)) (by omega) (by omega) ls (lv_sub hl [0, 1, 2, 3] rfl)
  exact K4 _ 0 (nI 0) (by first | rfl | exact Nat.zero_le _ | omega | assumption) (by first | rfl | exact Nat.zero_le _ | omega | assumption) (Nat.lt_succ_self _) ls (lv_sub hl [0, 1, 2, 3] rfl)

set_option maxHeartbeats 4000000 in
set_option maxRecDepth 100000 in
theorem c_X3_swing (l : Launch) (D : va_G) (cI cS : ClassId) (ad : Nat → Nat) (fa : Nat) (n : Nat) (fo : Nat) (ki : Nat → Nat) (st : Nat → Nat) (we : Nat → Nat) (lo : Nat → Nat) (ra : Nat) (rch : Nat) (q0 : Nat → Int32) (q1 : Nat → Int32) (q2 : Nat → Int32) (q3 : Nat → Int32) (fk : Nat) (fc : Nat → Nat) (rd : Nat) (rc : Nat → Nat) (rv : Nat → Nat) (sh : Nat → Bool) (sle : Nat → Nat) (sla : Nat → Nat) (bg : Nat → Int32) (hd : Nat → Int32) (tr : Int32) (hnd : nd (adM ad)) (hn : n ≤ 8) (hfo : fo < 256) (hki : ∀ j, ki j ≤ 2) (hwe : ∀ j, we j ≤ 9) (hst : ∀ j, st j ≤ 3) (hlo : ∀ j, lo j ≤ 3) : Met l yX3_swing wsX3_swing ({ frames := 5, cells := 0, slots := 0, locals := 108 }) (PR D cI cS [.ref (ad 0)] (wM cI ad fa n fo ki st we lo ra rch q0 q1 q2 q3 fk fc rd rc rv sh sle sla bg hd tr)) (va_Qi (fun r (zz : Nat × (Nat → Nat)) => r = A_swing n fo ki st we lo) (fun (zz : Nat × (Nat → Nat)) t => va_P D vwCl (wM cI ad fa n fo ki st we lo ra rch q0 q1 q2 q3 zz.1 zz.2 rd rc rv sh sle sla bg hd tr) t.heap) (AW (adM ad))) 0 0 (AW (adM ad)) := by
  refine startM (by decide) rfl (Nat.le_of_ble_eq_true rfl) hnd rfl ?_
  intro p e s m below meth c hx hb hr hts hown hlk hml hG hP hD hS ls hl
  have hl : lv_has ls 4 [(0, .ref (ad 0))] := hl
  have f65 := hts (.fieldLink RX3 65 "ChairBallotModel" "chairs" "I") (by decide +kernel)
  have f19 := hts (.fieldLink RX3 19 "ChairBallotModel" "facesOf" "[I") (by decide +kernel)
  have f114 := hts (.fieldLink RX3 114 "ChairBallotModel" "folded" "I") (by decide +kernel)
  have yX3 : ∀ w ∈ u_ws RX3 TX3 23, w.before _ s = true := fun w h => hts w ((by decide +kernel : ∀ w ∈ wsX30, w ∈ wsX3_swing) w h)
  have hF : CallFix p m c cX3_swing 4 s _ wsX3_swing RX3 := ⟨hx, hb, hml, hown, hts⟩
  have h2n := two_pow_le hn
  have h1n : 1 ≤ 2 ^ n := Nat.one_le_two_pow
  refine lv_aload_n hx hb dX3_swing_0 rfl (lv_at hl 0 rfl) ?_
  refine va_get (D := D) (ci := 3) (v := .int (nI n)) (C := RX3) (T := TX3) (N := 23) hx hb yX3 (fun _ h => h) hown hG.1 hP 0 rfl rfl 1 (by decide) f65 (fun _ h => h) rfl dX3_swing_1 ?_
  refine lv_if_ne (tgt := 10) hx hb dX3_swing_4 (by decide) (fun c_4 => ?_) (fun c_4 => ?_)
  ·
    replace c_4 := (not_congr (nI_eq (a := n) (b := 0) (by omega) (by omega))).mp c_4
    have hn0 : ¬ n = 0 := by omega
    refine lv_aload_n hx hb dX3_swing_10 rfl (lv_at hl 0 rfl) ?_
    refine xmuWv (va_runV (As := []) (rest := []) hF (c_X3_keepAll l D cI cS ad fa n fo ki st we lo ra rch q0 q1 q2 q3 fk fc rd rc rv sh sle sla bg hd tr hnd (by first | assumption | omega)) (cwV 0 hts gX3_swing_X3_keepAll rfl rfl rfl hV_X3_keepAll ⟨Nat.le_of_ble_eq_true rfl, Nat.le_of_ble_eq_true rfl⟩) (PR.preV hG hP (ci := 3) rfl rfl) rfl rfl hl.1 rfl (lv_room (Nat.le_of_ble_eq_true rfl)) dX3_swing_11 ⟨Nat.le_refl _, Nat.le_refl _⟩) hD hS rfl (fun _ => rfl) (fun u_11 H locs q_11 hP hD hS => ?_)
    try dsimp only at q_11 hP hD
    have hP : va_P D vwCl (wM cI ad fa n fo ki st we lo ra rch q0 q1 q2 q3 fo (kpF n lo fc) rd rc rv sh sle sla bg hd tr) H := hP
    have hD : va_D (AW (adM ad)) (wM cI ad fa n fo ki st we lo ra rch q0 q1 q2 q3 fo (kpF n lo fc) rd rc rv sh sle sla bg hd tr) := hD
    refine lv_bipush (v := (-9)) hx hb dX3_swing_14 (by decide) ?_
    refine lv_istore_n (lv' := [(1, .int (-9)), (0, .ref (ad 0))]) hx hb dX3_swing_16 rfl hl (by decide) rfl (fun ls hl => ?_)
    refine lv_iconst (v := nI 0) hx hb dX3_swing_17 (by decide) ?_
    refine lv_istore_n (lv' := [(2, .int (nI 0)), (1, .int (-9)), (0, .ref (ad 0))]) hx hb dX3_swing_18 rfl hl (by decide) rfl (fun ls hl => ?_)
    have K19 : ∀ (fuel : Nat) (i : Nat) (x1 : Int32), x1 = optI (swO (swP n fo ki st we lo) i) → (i ≤ 2 ^ n) → (2 ^ n - i) < fuel → ∀ (H : Heap) (locs : List Loc), va_P D vwCl (wM cI ad fa n fo ki st we lo ra rch q0 q1 q2 q3 fo (kpF n lo fc) rd rc rv sh sle sla bg hd tr) H → va_D (AW (adM ad)) (wM cI ad fa n fo ki st we lo ra rch q0 q1 q2 q3 fo (kpF n lo fc) rd rc rv sh sle sla bg hd tr) → va_S (AW (adM ad)) s.heap H locs → ∀ ls : Array Slot, lv_has ls 4 [(2, .int (nI i)), (1, .int x1), (0, .ref (ad 0))] → W p l e ({ frames := 5, cells := 0, slots := 0, locals := 108 }) s m (([.ref (ad 0)] : List Value).toArray) below meth c H locs 0 0 (MQ below (va_Qi (fun r (zz : Nat × (Nat → Nat)) => r = A_swing n fo ki st we lo) (fun (zz : Nat × (Nat → Nat)) t => va_P D vwCl (wM cI ad fa n fo ki st we lo ra rch q0 q1 q2 q3 zz.1 zz.2 rd rc rv sh sle sla bg hd tr) t.heap) (AW (adM ad))) (([.ref (ad 0)] : List Value).toArray) s 0 0 (AW (adM ad))) (F0 m 19 ls []) := by
      intro fuel
      induction fuel with
      | zero => intro i x1 e_x1 hi hmu; exact absurd hmu (Nat.not_lt_zero _)
      | succ fuel ih =>
        intro i x1 e_x1 hi hmu H locs hP hD hS ls hl
        subst e_x1
        refine lv_iload_n hx hb dX3_swing_19 rfl (lv_at hl 0 rfl) ?_
        have hbl : ∀ b, swO (swP n fo ki st we lo) i = some b → b < 256 := fun b hb => by have := swO_lt hb; omega
        have hpi := popN_le i
        have hai := and_lt (a := i) hfo
        refine lv_aload_n hx hb dX3_swing_20 rfl (lv_at hl 2 rfl) ?_
        refine xrd (va_runV (As := []) (rest := [.int (nI i)]) hF (c_X3_everyChair l D cI cS ad fa n fo ki st we lo ra rch q0 q1 q2 q3 fo (kpF n lo fc) rd rc rv sh sle sla bg hd tr (by first | assumption | omega)) (cwV 0 hts gX3_swing_X3_everyChair rfl rfl rfl hV_X3_everyChair ⟨Nat.le_of_ble_eq_true rfl, Nat.le_of_ble_eq_true rfl⟩) (PR.preV hG hP (ci := 3) rfl rfl) rfl rfl hl.1 rfl (lv_room (Nat.le_of_ble_eq_true rfl)) dX3_swing_21 ⟨Nat.le_refl _, Nat.le_refl _⟩) ?_
        refine lv_icmp_gt (tgt := 124) hx hb dX3_swing_24 (by decide) (fun c_24 => ?_) (fun c_24 => ?_)
        ·
          replace c_24 := (nI_ltI (a := 2 ^ n - 1) (b := i) (by omega) (by omega)).mp c_24
          have hin : i = 2 ^ n := by omega
          subst hin
          refine lv_iload_n hx hb dX3_swing_124 rfl (lv_at hl 1 rfl) ?_
          exact xretM hx hb hr hlk dX3_swing_125 hS ⟨fo, kpF n lo fc⟩ (by simp [A_swing, c_4, hn0, c_24]) (fun t ht => by rw [ht]; exact hP)
        ·
          replace c_24 := (not_congr (nI_ltI (a := 2 ^ n - 1) (b := i) (by omega) (by omega))).mp c_24
          refine lv_iconst (v := nI 0) hx hb dX3_swing_27 (by decide) ?_
          refine lv_istore_n (lv' := [(3, .int (nI 0)), (2, .int (nI i)), (1, .int (optI (swO (swP n fo ki st we lo) i))), (0, .ref (ad 0))]) hx hb dX3_swing_28 rfl hl (by decide) rfl (fun ls hl => ?_)
          have K29 : ∀ (fuel : Nat) (x : Nat) (g : Nat → Nat), g = seaL x i lo → (x ≤ n) → (n - x) < fuel → ∀ (H : Heap) (locs : List Loc), va_P D vwCl (wM cI ad fa n fo ki st we g ra rch q0 q1 q2 q3 fo (kpF n lo fc) rd rc rv sh sle sla bg hd tr) H → va_D (AW (adM ad)) (wM cI ad fa n fo ki st we g ra rch q0 q1 q2 q3 fo (kpF n lo fc) rd rc rv sh sle sla bg hd tr) → va_S (AW (adM ad)) s.heap H locs → ∀ ls : Array Slot, lv_has ls 4 [(3, .int (nI x)), (2, .int (nI i)), (1, .int (optI (swO (swP n fo ki st we lo) i))), (0, .ref (ad 0))] → W p l e ({ frames := 5, cells := 0, slots := 0, locals := 108 }) s m (([.ref (ad 0)] : List Value).toArray) below meth c H locs 0 0 (MQ below (va_Qi (fun r (zz : Nat × (Nat → Nat)) => r = A_swing n fo ki st we lo) (fun (zz : Nat × (Nat → Nat)) t => va_P D vwCl (wM cI ad fa n fo ki st we lo ra rch q0 q1 q2 q3 zz.1 zz.2 rd rc rv sh sle sla bg hd tr) t.heap) (AW (adM ad))) (([.ref (ad 0)] : List Value).toArray) s 0 0 (AW (adM ad))) (F0 m 29 ls []) := by
            intro fuel
            induction fuel with
            | zero => intro x g e_g hx9 hmu; exact absurd hmu (Nat.not_lt_zero _)
            | succ fuel ih29 =>
              intro x g e_g hx9 hmu H locs hP hD hS ls hl
              subst e_g
              refine lv_iload_n hx hb dX3_swing_29 rfl (lv_at hl 0 rfl) ?_
              refine lv_aload_n hx hb dX3_swing_30 rfl (lv_at hl 3 rfl) ?_
              refine va_get (D := D) (ci := 3) (v := .int (nI n)) (C := RX3) (T := TX3) (N := 23) hx hb yX3 (fun _ h => h) hown hG.1 hP 0 rfl rfl 1 (by decide) f65 (fun _ h => h) rfl dX3_swing_31 ?_
              refine lv_icmp_ge (tgt := 67) hx hb dX3_swing_34 (by decide) (fun c_34 => ?_) (fun c_34 => ?_)
              ·
                replace c_34 := (nI_leI (a := n) (b := x) (by omega) (by omega)).mp c_34
                have hin : n = x := by omega
                subst hin
                refine lv_iload_n hx hb dX3_swing_67 rfl (lv_at hl 1 rfl) ?_
                refine lv_aload_n hx hb dX3_swing_68 rfl (lv_at hl 3 rfl) ?_
                refine va_get (D := D) (ci := 3) (v := .int (nI fo)) (C := RX3) (T := TX3) (N := 23) hx hb yX3 (fun _ h => h) hown hG.1 hP 0 rfl rfl 2 (by decide) f114 (fun _ h => h) rfl dX3_swing_69 ?_
                refine lv_iand hx hb dX3_swing_72 ?_
                refine xtop (x' := nI (i &&& fo)) (nI_and _ _) ?_
                refine lv_if_ne (tgt := 87) hx hb dX3_swing_73 (by decide) (fun c_73 => ?_) (fun c_73 => ?_)
                ·
                  replace c_73 := (not_congr (nI_eq (a := i &&& fo) (b := 0) (by omega) (by omega))).mp c_73
                  refine lv_iconst (v := nI 0) hx hb dX3_swing_87 (by decide) ?_
                  refine lv_istore_n (lv' := [(3, .int (nI 0)), (2, .int (nI i)), (1, .int (optI (swO (swP n fo ki st we lo) i))), (0, .ref (ad 0))]) hx hb dX3_swing_88 rfl hl (by decide) rfl (fun ls hl => ?_)
                  refine lv_aload_n hx hb dX3_swing_89 rfl (lv_at hl 3 rfl) ?_
                  refine xmuWv (va_runV (As := []) (rest := []) hF (c_X3_bringBack l D cI cS ad fa n fo ki st we (seaL n i lo) ra rch q0 q1 q2 q3 fo (kpF n lo fc) rd rc rv sh sle sla bg hd tr hnd (by first | assumption | omega)) (cwV 0 hts gX3_swing_X3_bringBack rfl rfl rfl hV_X3_bringBack ⟨Nat.le_of_ble_eq_true rfl, Nat.le_of_ble_eq_true rfl⟩) (PR.preV hG hP (ci := 3) rfl rfl) rfl rfl hl.1 rfl (lv_room (Nat.le_of_ble_eq_true rfl)) dX3_swing_90 ⟨Nat.le_refl _, Nat.le_refl _⟩) hD hS rfl (fun _ => rfl) (fun u_90 H locs q_90 hP hD hS => ?_)
                  try dsimp only at q_90 hP hD
                  have hP : va_P D vwCl (wM cI ad fa n fo ki st we (kpF n (kpF n lo fc) (seaL n i lo)) ra rch q0 q1 q2 q3 fo (kpF n lo fc) rd rc rv sh sle sla bg hd tr) H := hP
                  have hD : va_D (AW (adM ad)) (wM cI ad fa n fo ki st we (kpF n (kpF n lo fc) (seaL n i lo)) ra rch q0 q1 q2 q3 fo (kpF n lo fc) rd rc rv sh sle sla bg hd tr) := hD
                  rw [kp_sea] at hP hD
                  have hP : va_P D vwCl (wM cI ad fa n fo ki st we lo ra rch q0 q1 q2 q3 fo (kpF n lo fc) rd rc rv sh sle sla bg hd tr) H := hP
                  have hD : va_D (AW (adM ad)) (wM cI ad fa n fo ki st we lo ra rch q0 q1 q2 q3 fo (kpF n lo fc) rd rc rv sh sle sla bg hd tr) := hD
                  refine lv_iload_n hx hb dX3_swing_93 rfl (lv_at hl 0 rfl) ?_
                  refine lv_if_eq (tgt := 116) hx hb dX3_swing_94 (by decide) (fun c_94 => ?_) (fun c_94 => ?_)
                  ·
                    refine lv_iload_n hx hb dX3_swing_116 rfl (lv_at hl 2 rfl) ?_
                    refine lv_istore_n (lv' := [(1, .int (optI (swO (swP n fo ki st we lo) i))), (3, .int (nI 0)), (2, .int (nI i)), (0, .ref (ad 0))]) hx hb dX3_swing_117 rfl hl (by decide) rfl (fun ls hl => ?_)
                    refine lv_iinc (v := nI (i + 1)) (lv' := [(2, .int (nI (i + 1))), (1, .int (optI (swO (swP n fo ki st we lo) i))), (3, .int (nI 0)), (0, .ref (ad 0))]) hx hb dX3_swing_118 hl (k := 2) rfl xinc1 (by decide) rfl (fun ls hl => ?_)
                    refine lv_goto (tgt := 19) hx hb dX3_swing_121 (by decide) ?_
                    exact ih (i + 1) (optI (swO (swP n fo ki st we lo) i)) (by rw [sw_n2 (swP_n c_73)]) (by omega) (by omega) _ _ hP hD hS ls (lv_sub hl [0, 1, 3] rfl)
                  · exact absurd (by decide) c_94
                ·
                  replace c_73 := (nI_eq (a := i &&& fo) (b := 0) (by omega) (by omega)).mp c_73
                  refine lv_aload_n hx hb dX3_swing_76 rfl (lv_at hl 3 rfl) ?_
                  refine xrd (va_runV (As := []) (rest := []) hF (c_X3_isCarried l D cI cS ad fa n fo ki st we (seaL n i lo) ra rch q0 q1 q2 q3 fo (kpF n lo fc) rd rc rv sh sle sla bg hd tr (by first | assumption | omega) (by first | assumption | omega) (by first | assumption | omega) (by first | assumption | omega) (by first | assumption | omega) (by first | assumption | exact sea_le hlo)) (cwV 0 hts gX3_swing_X3_isCarried rfl rfl rfl hV_X3_isCarried ⟨Nat.le_of_ble_eq_true rfl, Nat.le_of_ble_eq_true rfl⟩) (PR.preV hG hP (ci := 3) rfl rfl) rfl rfl hl.1 rfl (lv_room (Nat.le_of_ble_eq_true rfl)) dX3_swing_77 ⟨Nat.le_refl _, Nat.le_refl _⟩) ?_
                  refine lv_if_eq (tgt := 87) hx hb dX3_swing_80 (by decide) (fun c_80 => ?_) (fun c_80 => ?_)
                  ·
                    replace c_80 := bI_0.mp c_80
                    refine lv_iconst (v := nI 0) hx hb dX3_swing_87 (by decide) ?_
                    refine lv_istore_n (lv' := [(3, .int (nI 0)), (2, .int (nI i)), (1, .int (optI (swO (swP n fo ki st we lo) i))), (0, .ref (ad 0))]) hx hb dX3_swing_88 rfl hl (by decide) rfl (fun ls hl => ?_)
                    refine lv_aload_n hx hb dX3_swing_89 rfl (lv_at hl 3 rfl) ?_
                    refine xmuWv (va_runV (As := []) (rest := []) hF (c_X3_bringBack l D cI cS ad fa n fo ki st we (seaL n i lo) ra rch q0 q1 q2 q3 fo (kpF n lo fc) rd rc rv sh sle sla bg hd tr hnd (by first | assumption | omega)) (cwV 0 hts gX3_swing_X3_bringBack rfl rfl rfl hV_X3_bringBack ⟨Nat.le_of_ble_eq_true rfl, Nat.le_of_ble_eq_true rfl⟩) (PR.preV hG hP (ci := 3) rfl rfl) rfl rfl hl.1 rfl (lv_room (Nat.le_of_ble_eq_true rfl)) dX3_swing_90 ⟨Nat.le_refl _, Nat.le_refl _⟩) hD hS rfl (fun _ => rfl) (fun u_90 H locs q_90 hP hD hS => ?_)
                    try dsimp only at q_90 hP hD
                    have hP : va_P D vwCl (wM cI ad fa n fo ki st we (kpF n (kpF n lo fc) (seaL n i lo)) ra rch q0 q1 q2 q3 fo (kpF n lo fc) rd rc rv sh sle sla bg hd tr) H := hP
                    have hD : va_D (AW (adM ad)) (wM cI ad fa n fo ki st we (kpF n (kpF n lo fc) (seaL n i lo)) ra rch q0 q1 q2 q3 fo (kpF n lo fc) rd rc rv sh sle sla bg hd tr) := hD
                    rw [kp_sea] at hP hD
                    have hP : va_P D vwCl (wM cI ad fa n fo ki st we lo ra rch q0 q1 q2 q3 fo (kpF n lo fc) rd rc rv sh sle sla bg hd tr) H := hP
                    have hD : va_D (AW (adM ad)) (wM cI ad fa n fo ki st we lo ra rch q0 q1 q2 q3 fo (kpF n lo fc) rd rc rv sh sle sla bg hd tr) := hD
                    refine lv_iload_n hx hb dX3_swing_93 rfl (lv_at hl 0 rfl) ?_
                    refine lv_if_eq (tgt := 116) hx hb dX3_swing_94 (by decide) (fun c_94 => ?_) (fun c_94 => ?_)
                    ·
                      refine lv_iload_n hx hb dX3_swing_116 rfl (lv_at hl 2 rfl) ?_
                      refine lv_istore_n (lv' := [(1, .int (optI (swO (swP n fo ki st we lo) i))), (3, .int (nI 0)), (2, .int (nI i)), (0, .ref (ad 0))]) hx hb dX3_swing_117 rfl hl (by decide) rfl (fun ls hl => ?_)
                      refine lv_iinc (v := nI (i + 1)) (lv' := [(2, .int (nI (i + 1))), (1, .int (optI (swO (swP n fo ki st we lo) i))), (3, .int (nI 0)), (0, .ref (ad 0))]) hx hb dX3_swing_118 hl (k := 2) rfl xinc1 (by decide) rfl (fun ls hl => ?_)
                      refine lv_goto (tgt := 19) hx hb dX3_swing_121 (by decide) ?_
                      exact ih (i + 1) (optI (swO (swP n fo ki st we lo) i)) (by rw [sw_n2 (swP_m c_80)]) (by omega) (by omega) _ _ hP hD hS ls (lv_sub hl [0, 1, 3] rfl)
                    · exact absurd (by decide) c_94
                  ·
                    replace c_80 := bI_n0.mp c_80
                    refine lv_iconst (v := nI 1) hx hb dX3_swing_83 (by decide) ?_
                    refine lv_goto (tgt := 88) hx hb dX3_swing_84 (by decide) ?_
                    refine lv_istore_n (lv' := [(3, .int (nI 1)), (2, .int (nI i)), (1, .int (optI (swO (swP n fo ki st we lo) i))), (0, .ref (ad 0))]) hx hb dX3_swing_88 rfl hl (by decide) rfl (fun ls hl => ?_)
                    refine lv_aload_n hx hb dX3_swing_89 rfl (lv_at hl 3 rfl) ?_
                    refine xmuWv (va_runV (As := []) (rest := []) hF (c_X3_bringBack l D cI cS ad fa n fo ki st we (seaL n i lo) ra rch q0 q1 q2 q3 fo (kpF n lo fc) rd rc rv sh sle sla bg hd tr hnd (by first | assumption | omega)) (cwV 0 hts gX3_swing_X3_bringBack rfl rfl rfl hV_X3_bringBack ⟨Nat.le_of_ble_eq_true rfl, Nat.le_of_ble_eq_true rfl⟩) (PR.preV hG hP (ci := 3) rfl rfl) rfl rfl hl.1 rfl (lv_room (Nat.le_of_ble_eq_true rfl)) dX3_swing_90 ⟨Nat.le_refl _, Nat.le_refl _⟩) hD hS rfl (fun _ => rfl) (fun u_90 H locs q_90 hP hD hS => ?_)
                    try dsimp only at q_90 hP hD
                    have hP : va_P D vwCl (wM cI ad fa n fo ki st we (kpF n (kpF n lo fc) (seaL n i lo)) ra rch q0 q1 q2 q3 fo (kpF n lo fc) rd rc rv sh sle sla bg hd tr) H := hP
                    have hD : va_D (AW (adM ad)) (wM cI ad fa n fo ki st we (kpF n (kpF n lo fc) (seaL n i lo)) ra rch q0 q1 q2 q3 fo (kpF n lo fc) rd rc rv sh sle sla bg hd tr) := hD
                    rw [kp_sea] at hP hD
                    have hP : va_P D vwCl (wM cI ad fa n fo ki st we lo ra rch q0 q1 q2 q3 fo (kpF n lo fc) rd rc rv sh sle sla bg hd tr) H := hP
                    have hD : va_D (AW (adM ad)) (wM cI ad fa n fo ki st we lo ra rch q0 q1 q2 q3 fo (kpF n lo fc) rd rc rv sh sle sla bg hd tr) := hD
                    refine lv_iload_n hx hb dX3_swing_93 rfl (lv_at hl 0 rfl) ?_
                    refine lv_if_eq (tgt := 116) hx hb dX3_swing_94 (by decide) (fun c_94 => ?_) (fun c_94 => ?_)
                    · exact absurd c_94 (by decide)
                    ·
                      refine lv_iload_n hx hb dX3_swing_97 rfl (lv_at hl 2 rfl) ?_
                      refine lv_if_lt (tgt := 112) hx hb dX3_swing_98 (by decide) (fun c_98 => ?_) (fun c_98 => ?_)
                      ·
                        replace c_98 : (optI (swO (swP n fo ki st we lo) i)).toInt < 0 := (i32_ltc (b := 0) (by omega)).mp c_98
                        refine lv_iload_n hx hb dX3_swing_112 rfl (lv_at hl 1 rfl) ?_
                        refine lv_goto (tgt := 117) hx hb dX3_swing_113 (by decide) ?_
                        refine lv_istore_n (lv' := [(1, .int (nI i)), (3, .int (nI 1)), (2, .int (nI i)), (0, .ref (ad 0))]) hx hb dX3_swing_117 rfl hl (by decide) rfl (fun ls hl => ?_)
                        refine lv_iinc (v := nI (i + 1)) (lv' := [(2, .int (nI (i + 1))), (1, .int (nI i)), (3, .int (nI 1)), (0, .ref (ad 0))]) hx hb dX3_swing_118 hl (k := 2) rfl xinc1 (by decide) rfl (fun ls hl => ?_)
                        refine lv_goto (tgt := 19) hx hb dX3_swing_121 (by decide) ?_
                        exact ih (i + 1) (nI i) (by rw [sw_o (optI_lt hbl c_98) (swP_y c_73 c_80)]; rfl) (by omega) (by omega) _ _ hP hD hS ls (lv_sub hl [0, 1, 3] rfl)
                      ·
                        replace c_98 : ¬ (optI (swO (swP n fo ki st we lo) i)).toInt < 0 := (not_congr (i32_ltc (b := 0) (by omega))).mp c_98
                        obtain ⟨b, hb9⟩ := optI_ge c_98
                        have hbl2 := hbl b hb9
                        have hpb := popN_le b
                        refine lv_iload_n hx hb dX3_swing_101 rfl (lv_at hl 1 rfl) ?_
                        refine xrd (va_runS (As := [.int (nI i)]) (rest := []) hF (c_X3_bits l D cI cS i (by first | assumption | omega)) (va_cwS 1 hts gX3_swing_X3_bits rfl rfl rfl hD_X3_bits ⟨Nat.le_of_ble_eq_true rfl, Nat.le_of_ble_eq_true rfl⟩) (PR.pre hG (hP.sub (ws' := []) [] rfl)) rfl rfl hl.1 rfl (lv_room (Nat.le_of_ble_eq_true rfl)) dX3_swing_102 ⟨Nat.le_refl _, Nat.le_refl _⟩) ?_
                        refine lv_iload_n hx hb dX3_swing_105 rfl (lv_at hl 2 rfl) ?_
                        refine xtop (x' := nI b) (by rw [hb9]; rfl) ?_
                        refine xrd (va_runS (As := [.int (nI b)]) (rest := [.int (nI (popN i))]) hF (c_X3_bits l D cI cS b (by first | assumption | omega)) (va_cwS 1 hts gX3_swing_X3_bits rfl rfl rfl hD_X3_bits ⟨Nat.le_of_ble_eq_true rfl, Nat.le_of_ble_eq_true rfl⟩) (PR.pre hG (hP.sub (ws' := []) [] rfl)) rfl rfl hl.1 rfl (lv_room (Nat.le_of_ble_eq_true rfl)) dX3_swing_106 ⟨Nat.le_refl _, Nat.le_refl _⟩) ?_
                        refine lv_icmp_ge (tgt := 116) hx hb dX3_swing_109 (by decide) (fun c_109 => ?_) (fun c_109 => ?_)
                        ·
                          replace c_109 := (nI_leI (a := popN b) (b := popN i) (by omega) (by omega)).mp c_109
                          refine lv_iload_n hx hb dX3_swing_116 rfl (lv_at hl 2 rfl) ?_
                          refine lv_istore_n (lv' := [(1, .int (optI (swO (swP n fo ki st we lo) i))), (3, .int (nI 1)), (2, .int (nI i)), (0, .ref (ad 0))]) hx hb dX3_swing_117 rfl hl (by decide) rfl (fun ls hl => ?_)
                          refine lv_iinc (v := nI (i + 1)) (lv' := [(2, .int (nI (i + 1))), (1, .int (optI (swO (swP n fo ki st we lo) i))), (3, .int (nI 1)), (0, .ref (ad 0))]) hx hb dX3_swing_118 hl (k := 2) rfl xinc1 (by decide) rfl (fun ls hl => ?_)
                          refine lv_goto (tgt := 19) hx hb dX3_swing_121 (by decide) ?_
                          exact ih (i + 1) (optI (swO (swP n fo ki st we lo) i)) (by rw [sw_k hb9 c_109, hb9]) (by omega) (by omega) _ _ hP hD hS ls (lv_sub hl [0, 1, 3] rfl)
                        ·
                          replace c_109 := (not_congr (nI_leI (a := popN b) (b := popN i) (by omega) (by omega))).mp c_109
                          refine lv_iload_n hx hb dX3_swing_112 rfl (lv_at hl 1 rfl) ?_
                          refine lv_goto (tgt := 117) hx hb dX3_swing_113 (by decide) ?_
                          refine lv_istore_n (lv' := [(1, .int (nI i)), (3, .int (nI 1)), (2, .int (nI i)), (0, .ref (ad 0))]) hx hb dX3_swing_117 rfl hl (by decide) rfl (fun ls hl => ?_)
                          refine lv_iinc (v := nI (i + 1)) (lv' := [(2, .int (nI (i + 1))), (1, .int (nI i)), (3, .int (nI 1)), (0, .ref (ad 0))]) hx hb dX3_swing_118 hl (k := 2) rfl xinc1 (by decide) rfl (fun ls hl => ?_)
                          refine lv_goto (tgt := 19) hx hb dX3_swing_121 (by decide) ?_
                          exact ih (i + 1) (nI i) (by rw [sw_r hb9 (by omega) (swP_y c_73 c_80)]; rfl) (by omega) (by omega) _ _ hP hD hS ls (lv_sub hl [0, 1, 3] rfl)
              ·
                replace c_34 := (not_congr (nI_leI (a := n) (b := x) (by omega) (by omega))).mp c_34
                refine lv_aload_n hx hb dX3_swing_37 rfl (lv_at hl 3 rfl) ?_
                refine va_get (D := D) (ci := 3) (v := .ref (ad 4)) (C := RX3) (T := TX3) (N := 23) hx hb yX3 (fun _ h => h) hown hG.1 hP 0 rfl rfl 6 (by decide) f19 (fun _ h => h) rfl dX3_swing_38 ?_
                refine lv_iload_n hx hb dX3_swing_41 rfl (lv_at hl 0 rfl) ?_
                refine lv_iload_n hx hb dX3_swing_42 rfl (lv_at hl 1 rfl) ?_
                refine lv_iload_n hx hb dX3_swing_43 rfl (lv_at hl 0 rfl) ?_
                refine xrd (va_runS (As := [.int (nI i), .int (nI x)]) (rest := [.int (nI x), .ref (ad 4)]) hF (c_X3_isIn l D cI cS i x (by first | assumption | omega) (by first | assumption | omega)) (va_cwS 2 hts gX3_swing_X3_isIn rfl rfl rfl hD_X3_isIn ⟨Nat.le_of_ble_eq_true rfl, Nat.le_of_ble_eq_true rfl⟩) (PR.pre hG (hP.sub (ws' := []) [] rfl)) rfl rfl hl.1 rfl (lv_room (Nat.le_of_ble_eq_true rfl)) dX3_swing_44 ⟨Nat.le_refl _, Nat.le_refl _⟩) ?_
                refine lv_if_eq (tgt := 54) hx hb dX3_swing_47 (by decide) (fun c_47 => ?_) (fun c_47 => ?_)
                ·
                  replace c_47 := bI_0.mp c_47
                  refine lv_aload_n hx hb dX3_swing_54 rfl (lv_at hl 3 rfl) ?_
                  refine va_get (D := D) (ci := 3) (v := .ref (ad 4)) (C := RX3) (T := TX3) (N := 23) hx hb yX3 (fun _ h => h) hown hG.1 hP 0 rfl rfl 6 (by decide) f19 (fun _ h => h) rfl dX3_swing_55 ?_
                  refine lv_iload_n hx hb dX3_swing_58 rfl (lv_at hl 0 rfl) ?_
                  refine xaldN hx hb hG hP 4 rfl (x) rfl (by omega) (by decide) dX3_swing_59 ?_
                  refine xastN hx hb hG hP hD hS 4 rfl (x) ((seaL x i lo) x) rfl rfl (by omega) (by decide) dX3_swing_60 (fun H locs hP hD hS => ?_)
                  have hP : va_P D vwCl (wM cI ad fa n fo ki st we (updN (seaL x i lo) x ((seaL x i lo) x)) ra rch q0 q1 q2 q3 fo (kpF n lo fc) rd rc rv sh sle sla bg hd tr) H := hP
                  have hD : va_D (AW (adM ad)) (wM cI ad fa n fo ki st we (updN (seaL x i lo) x ((seaL x i lo) x)) ra rch q0 q1 q2 q3 fo (kpF n lo fc) rd rc rv sh sle sla bg hd tr) := hD
                  refine lv_iinc (v := nI (x + 1)) (lv' := [(3, .int (nI (x + 1))), (2, .int (nI i)), (1, .int (optI (swO (swP n fo ki st we lo) i))), (0, .ref (ad 0))]) hx hb dX3_swing_61 hl (k := 0) rfl xinc1 (by decide) rfl (fun ls hl => ?_)
                  refine lv_goto (tgt := 29) hx hb dX3_swing_64 (by decide) ?_
                  exact ih29 (x + 1) (updN (seaL x i lo) x ((seaL x i lo) x)) (by first | exact sea_s c_47 | exact sea_k c_47) (by omega) (by omega) _ _ hP hD hS ls (lv_sub hl [0, 1, 2, 3] rfl)
                ·
                  replace c_47 := bI_n0.mp c_47
                  refine lv_iconst (v := nI 0) hx hb dX3_swing_50 (by decide) ?_
                  refine lv_goto (tgt := 60) hx hb dX3_swing_51 (by decide) ?_
                  refine xastN hx hb hG hP hD hS 4 rfl (x) (0) rfl rfl (by omega) (by decide) dX3_swing_60 (fun H locs hP hD hS => ?_)
                  have hP : va_P D vwCl (wM cI ad fa n fo ki st we (updN (seaL x i lo) x 0) ra rch q0 q1 q2 q3 fo (kpF n lo fc) rd rc rv sh sle sla bg hd tr) H := hP
                  have hD : va_D (AW (adM ad)) (wM cI ad fa n fo ki st we (updN (seaL x i lo) x 0) ra rch q0 q1 q2 q3 fo (kpF n lo fc) rd rc rv sh sle sla bg hd tr) := hD
                  refine lv_iinc (v := nI (x + 1)) (lv' := [(3, .int (nI (x + 1))), (2, .int (nI i)), (1, .int (optI (swO (swP n fo ki st we lo) i))), (0, .ref (ad 0))]) hx hb dX3_swing_61 hl (k := 0) rfl xinc1 (by decide) rfl (fun ls hl => ?_)
                  refine lv_goto (tgt := 29) hx hb dX3_swing_64 (by decide) ?_
                  exact ih29 (x + 1) (updN (seaL x i lo) x 0) (by first | exact sea_s c_47 | exact sea_k c_47) (by omega) (by omega) _ _ hP hD hS ls (lv_sub hl [0, 1, 2, 3] rfl)
          exact K29 _ 0 lo (by first | exact sea_0.symm | omega) (by first | exact sea_0.symm | omega) (Nat.lt_succ_self _) _ _ hP hD hS ls (lv_sub hl [0, 1, 2, 3] rfl)
    exact K19 _ 0 (-9) (by first | rfl | exact Nat.zero_le _) (by first | rfl | exact Nat.zero_le _) (Nat.lt_succ_self _) _ _ hP hD hS ls (lv_sub hl [0, 1, 2] rfl)
  ·
    replace c_4 := (nI_eq (a := n) (b := 0) (by omega) (by omega)).mp c_4
    have hn0 : n = 0 := by omega
    refine lv_bipush (v := (-3)) hx hb dX3_swing_7 (by decide) ?_
    exact xretM hx hb hr hlk dX3_swing_9 hS ⟨fk, fc⟩ (by simp [A_swing, c_4, hn0]) (fun t ht => by rw [ht]; exact hP)

set_option maxHeartbeats 4000000 in
set_option maxRecDepth 100000 in
theorem c_X3_blow (l : Launch) (D : va_G) (cI cS : ClassId) (ad : Nat → Nat) (fa : Nat) (n : Nat) (fo : Nat) (ki : Nat → Nat) (st : Nat → Nat) (we : Nat → Nat) (lo : Nat → Nat) (ra : Nat) (rch : Nat) (q0 : Nat → Int32) (q1 : Nat → Int32) (q2 : Nat → Int32) (q3 : Nat → Int32) (fk : Nat) (fc : Nat → Nat) (rd : Nat) (rc : Nat → Nat) (rv : Nat → Nat) (sh : Nat → Bool) (sle : Nat → Nat) (sla : Nat → Nat) (bg : Nat → Int32) (hd : Nat → Int32) (tr : Int32) (k : Int32) (hnd : nd (adM ad)) (hn : n ≤ 8) (hfo : fo < 256) (hki : ∀ j, ki j ≤ 2) (hwe : ∀ j, we j ≤ 9) (hst : ∀ j, st j ≤ 3) (hlo : ∀ j, lo j ≤ 3) : Met l yX3_blow wsX3_blow ({ frames := 5, cells := 0, slots := 0, locals := 108 }) (PR D cI cS [.ref (ad 0), .int k] (wM cI ad fa n fo ki st we lo ra rch q0 q1 q2 q3 fk fc rd rc rv sh sle sla bg hd tr)) (va_Qi (fun r (zz : Nat × (Nat → Nat)) => r = A_blow n fo ki st we lo k) (fun (zz : Nat × (Nat → Nat)) t => va_P D vwCl (wM cI ad fa n fo ki st we lo ra rch q0 q1 q2 q3 zz.1 zz.2 rd rc rv sh sle sla bg hd tr) t.heap) (AW (adM ad))) 0 0 (AW (adM ad)) := by
  refine startM (by decide) rfl (Nat.le_of_ble_eq_true rfl) hnd rfl ?_
  intro p e s m below meth c hx hb hr hts hown hlk hml hG hP hD hS ls hl
  have hl : lv_has ls 4 [(0, .ref (ad 0)), (1, .int k)] := hl
  have f65 := hts (.fieldLink RX3 65 "ChairBallotModel" "chairs" "I") (by decide +kernel)
  have yX3 : ∀ w ∈ u_ws RX3 TX3 23, w.before _ s = true := fun w h => hts w ((by decide +kernel : ∀ w ∈ wsX30, w ∈ wsX3_blow) w h)
  have hF : CallFix p m c cX3_blow 4 s _ wsX3_blow RX3 := ⟨hx, hb, hml, hown, hts⟩
  refine lv_aload_n hx hb dX3_blow_0 rfl (lv_at hl 0 rfl) ?_
  refine va_get (D := D) (ci := 3) (v := .int (nI n)) (C := RX3) (T := TX3) (N := 23) hx hb yX3 (fun _ h => h) hown hG.1 hP 0 rfl rfl 1 (by decide) f65 (fun _ h => h) rfl dX3_blow_1 ?_
  refine lv_if_ne (tgt := 10) hx hb dX3_blow_4 (by decide) (fun c_4 => ?_) (fun c_4 => ?_)
  ·
    replace c_4 := (not_congr (nI_eq (a := n) (b := 0) (by omega) (by omega))).mp c_4
    have hn0 : ¬ n = 0 := by omega
    refine lv_iload_n hx hb dX3_blow_10 rfl (lv_at hl 1 rfl) ?_
    refine lv_i2l (v := k.toInt64) hx hb dX3_blow_11 rfl ?_
    refine lv_lconst (v := lN 0) hx hb dX3_blow_12 rfl ?_
    refine lv_ldc2 (v := 3) hx hb hown (hts (.constantLong RX3 138 (3)) (by decide +kernel)) dX3_blow_13 ?_
    refine xtopl (x' := lN 3) rfl ?_
    refine xrd (va_runS (As := [.long k.toInt64, .long (lN 0), .long (lN 3)]) (rest := []) hF (c_X3_in l D cI cS k 0 3 (by first | assumption | omega) (by first | assumption | omega)) (va_cwS 3 hts gX3_blow_X3_in rfl rfl rfl hD_X3_in ⟨Nat.le_of_ble_eq_true rfl, Nat.le_of_ble_eq_true rfl⟩) (PR.pre hG (hP.sub (ws' := []) [] rfl)) rfl rfl hl.1 rfl (lv_room (Nat.le_of_ble_eq_true rfl)) dX3_blow_16 ⟨Nat.le_refl _, Nat.le_refl _⟩) ?_
    refine xtop (x' := bI (rgB 0 3 k)) rfl ?_
    refine lv_if_ne (tgt := 25) hx hb dX3_blow_19 (by decide) (fun c_19 => ?_) (fun c_19 => ?_)
    ·
      replace c_19 := bI_n0.mp c_19
      obtain ⟨w, hw0, hw1, rfl⟩ := rgB_nat (by decide) c_19
      have hclw := cl8 (j := w) (by omega)
      refine lv_aload_n hx hb dX3_blow_25 rfl (lv_at hl 0 rfl) ?_
      refine xmuWv (va_runV (As := []) (rest := []) hF (c_X3_keepAll l D cI cS ad fa n fo ki st we lo ra rch q0 q1 q2 q3 fk fc rd rc rv sh sle sla bg hd tr hnd (by first | assumption | omega)) (cwV 0 hts gX3_blow_X3_keepAll rfl rfl rfl hV_X3_keepAll ⟨Nat.le_of_ble_eq_true rfl, Nat.le_of_ble_eq_true rfl⟩) (PR.preV hG hP (ci := 3) rfl rfl) rfl rfl hl.1 rfl (lv_room (Nat.le_of_ble_eq_true rfl)) dX3_blow_26 ⟨Nat.le_refl _, Nat.le_refl _⟩) hD hS rfl (fun _ => rfl) (fun u_26 H locs q_26 hP hD hS => ?_)
      try dsimp only at q_26 hP hD
      have hP : va_P D vwCl (wM cI ad fa n fo ki st we lo ra rch q0 q1 q2 q3 fo (kpF n lo fc) rd rc rv sh sle sla bg hd tr) H := hP
      have hD : va_D (AW (adM ad)) (wM cI ad fa n fo ki st we lo ra rch q0 q1 q2 q3 fo (kpF n lo fc) rd rc rv sh sle sla bg hd tr) := hD
      refine lv_bipush (v := (-9)) hx hb dX3_blow_29 (by decide) ?_
      refine lv_istore_n (lv' := [(2, .int (-9)), (0, .ref (ad 0)), (1, .int (nI w))]) hx hb dX3_blow_31 rfl hl (by decide) rfl (fun ls hl => ?_)
      refine lv_bipush (v := nI 10) hx hb dX3_blow_32 (by decide) ?_
      refine lv_istore_n (lv' := [(3, .int (nI 10)), (2, .int (-9)), (0, .ref (ad 0)), (1, .int (nI w))]) hx hb dX3_blow_34 rfl hl (by decide) rfl (fun ls hl => ?_)
      have K35 : ∀ (fuel : Nat) (i : Nat) (x3 : Int32) (x2 : Int32), x3 = zI (im1 i) → x2 = optI (dnO (blP n fo ki st we lo w) i) → (i ≤ 11) → i < fuel → ∀ (H : Heap) (locs : List Loc), va_P D vwCl (wM cI ad fa n fo ki st we lo ra rch q0 q1 q2 q3 fo (kpF n lo fc) rd rc rv sh sle sla bg hd tr) H → va_D (AW (adM ad)) (wM cI ad fa n fo ki st we lo ra rch q0 q1 q2 q3 fo (kpF n lo fc) rd rc rv sh sle sla bg hd tr) → va_S (AW (adM ad)) s.heap H locs → ∀ ls : Array Slot, lv_has ls 4 [(3, .int x3), (2, .int x2), (0, .ref (ad 0)), (1, .int (nI w))] → W p l e ({ frames := 5, cells := 0, slots := 0, locals := 108 }) s m (([.ref (ad 0), .int (nI w)] : List Value).toArray) below meth c H locs 0 0 (MQ below (va_Qi (fun r (zz : Nat × (Nat → Nat)) => r = A_blow n fo ki st we lo (nI w)) (fun (zz : Nat × (Nat → Nat)) t => va_P D vwCl (wM cI ad fa n fo ki st we lo ra rch q0 q1 q2 q3 zz.1 zz.2 rd rc rv sh sle sla bg hd tr) t.heap) (AW (adM ad))) (([.ref (ad 0), .int (nI w)] : List Value).toArray) s 0 0 (AW (adM ad))) (F0 m 35 ls []) := by
        intro fuel
        induction fuel with
        | zero => intro i x3 x2 e_x3 e_x2 hi hmu; exact absurd hmu (Nat.not_lt_zero _)
        | succ fuel ih =>
          intro i x3 x2 e_x3 e_x2 hi hmu H locs hP hD hS ls hl
          subst e_x3
          subst e_x2
          refine lv_iload_n hx hb dX3_blow_35 rfl (lv_at hl 0 rfl) ?_
          refine lv_if_lt (tgt := 69) hx hb dX3_blow_36 (by decide) (fun c_36 => ?_) (fun c_36 => ?_)
          ·
            replace c_36 : (zI (im1 i)).toInt < 0 := (i32_ltc (b := 0) (by omega)).mp c_36
            have hi0 := zI_lt hi c_36
            subst hi0
            refine lv_iload_n hx hb dX3_blow_69 rfl (lv_at hl 1 rfl) ?_
            exact xretM hx hb hr hlk dX3_blow_70 hS ⟨fo, kpF n lo fc⟩ (by first | (simp [A_blow, c_4, hn0, c_19, hclw, c_36]; done) | (rw [dn_0]; simp [A_blow, c_4, hn0, c_19, hclw, c_36])) (fun t ht => by rw [ht]; exact hP)
          ·
            replace c_36 : ¬ (zI (im1 i)).toInt < 0 := (not_congr (i32_ltc (b := 0) (by omega))).mp c_36
            obtain ⟨m9, rfl⟩ := zI_ge hi c_36
            refine lv_aload_n hx hb dX3_blow_39 rfl (lv_at hl 2 rfl) ?_
            refine lv_iload_n hx hb dX3_blow_40 rfl (lv_at hl 3 rfl) ?_
            refine lv_iload_n hx hb dX3_blow_41 rfl (lv_at hl 0 rfl) ?_
            refine xtop (x' := nI m9) (by exact zI_s) ?_
            refine xmuW (va_runV (As := [.int (nI w), .int (nI m9)]) (rest := []) hF (c_X3_blown l D cI cS ad fa n fo ki st we lo ra rch q0 q1 q2 q3 fo (kpF n lo fc) rd rc rv sh sle sla bg hd tr w m9 hnd (by first | assumption | omega) (by first | assumption | omega) (by first | assumption | exact blw_le hlo (by omega)) (by first | assumption | omega) (by first | assumption | omega) (by first | assumption | omega)) (cwV 2 hts gX3_blow_X3_blown rfl rfl rfl hV_X3_blown ⟨Nat.le_of_ble_eq_true rfl, Nat.le_of_ble_eq_true rfl⟩) (PR.preV hG hP (ci := 3) rfl rfl) rfl rfl hl.1 rfl (lv_room (Nat.le_of_ble_eq_true rfl)) dX3_blow_42 ⟨Nat.le_refl _, Nat.le_refl _⟩) hD hS rfl (fun _ => rfl) (fun r_42 u_42 H locs q_42 hP hD hS => ?_)
            try dsimp only at q_42 hP hD
            have e_42 := q_42
            subst e_42
            have hP : va_P D vwCl (wM cI ad fa n fo ki st we (blwL n fo we lo w m9) ra rch q0 q1 q2 q3 fo (kpF n lo fc) rd rc rv sh sle sla bg hd tr) H := hP
            have hD : va_D (AW (adM ad)) (wM cI ad fa n fo ki st we (blwL n fo we lo w m9) ra rch q0 q1 q2 q3 fo (kpF n lo fc) rd rc rv sh sle sla bg hd tr) := hD
            refine lv_pop hx hb dX3_blow_45 rfl ?_
            refine lv_aload_n hx hb dX3_blow_46 rfl (lv_at hl 2 rfl) ?_
            refine xrd (va_runV (As := []) (rest := []) hF (c_X3_isCarried l D cI cS ad fa n fo ki st we (blwL n fo we lo w m9) ra rch q0 q1 q2 q3 fo (kpF n lo fc) rd rc rv sh sle sla bg hd tr (by first | assumption | omega) (by first | assumption | omega) (by first | assumption | omega) (by first | assumption | omega) (by first | assumption | omega) (by first | assumption | exact blw_le hlo (by omega))) (cwV 0 hts gX3_blow_X3_isCarried rfl rfl rfl hV_X3_isCarried ⟨Nat.le_of_ble_eq_true rfl, Nat.le_of_ble_eq_true rfl⟩) (PR.preV hG hP (ci := 3) rfl rfl) rfl rfl hl.1 rfl (lv_room (Nat.le_of_ble_eq_true rfl)) dX3_blow_47 ⟨Nat.le_refl _, Nat.le_refl _⟩) ?_
            refine lv_if_eq (tgt := 57) hx hb dX3_blow_50 (by decide) (fun c_50 => ?_) (fun c_50 => ?_)
            ·
              replace c_50 := bI_0.mp c_50
              refine lv_iload_n hx hb dX3_blow_57 rfl (lv_at hl 1 rfl) ?_
              refine lv_istore_n (lv' := [(2, .int (optI (dnO (blP n fo ki st we lo w) (m9 + 1)))), (3, .int (zI (im1 (m9 + 1)))), (0, .ref (ad 0)), (1, .int (nI w))]) hx hb dX3_blow_58 rfl hl (by decide) rfl (fun ls hl => ?_)
              refine lv_aload_n hx hb dX3_blow_59 rfl (lv_at hl 2 rfl) ?_
              refine xmuWv (va_runV (As := []) (rest := []) hF (c_X3_bringBack l D cI cS ad fa n fo ki st we (blwL n fo we lo w m9) ra rch q0 q1 q2 q3 fo (kpF n lo fc) rd rc rv sh sle sla bg hd tr hnd (by first | assumption | omega)) (cwV 0 hts gX3_blow_X3_bringBack rfl rfl rfl hV_X3_bringBack ⟨Nat.le_of_ble_eq_true rfl, Nat.le_of_ble_eq_true rfl⟩) (PR.preV hG hP (ci := 3) rfl rfl) rfl rfl hl.1 rfl (lv_room (Nat.le_of_ble_eq_true rfl)) dX3_blow_60 ⟨Nat.le_refl _, Nat.le_refl _⟩) hD hS rfl (fun _ => rfl) (fun u_60 H locs q_60 hP hD hS => ?_)
              try dsimp only at q_60 hP hD
              have hP : va_P D vwCl (wM cI ad fa n fo ki st we (kpF n (kpF n lo fc) (blwL n fo we lo w m9)) ra rch q0 q1 q2 q3 fo (kpF n lo fc) rd rc rv sh sle sla bg hd tr) H := hP
              have hD : va_D (AW (adM ad)) (wM cI ad fa n fo ki st we (kpF n (kpF n lo fc) (blwL n fo we lo w m9)) ra rch q0 q1 q2 q3 fo (kpF n lo fc) rd rc rv sh sle sla bg hd tr) := hD
              rw [kp_blw] at hP hD
              have hP : va_P D vwCl (wM cI ad fa n fo ki st we lo ra rch q0 q1 q2 q3 fo (kpF n lo fc) rd rc rv sh sle sla bg hd tr) H := hP
              have hD : va_D (AW (adM ad)) (wM cI ad fa n fo ki st we lo ra rch q0 q1 q2 q3 fo (kpF n lo fc) rd rc rv sh sle sla bg hd tr) := hD
              refine lv_iinc (v := (zI (im1 (m9 + 1))) + (-1)) (lv' := [(3, .int ((zI (im1 (m9 + 1))) + (-1))), (2, .int (optI (dnO (blP n fo ki st we lo w) (m9 + 1)))), (0, .ref (ad 0)), (1, .int (nI w))]) hx hb dX3_blow_63 hl (k := 1) rfl rfl (by decide) rfl (fun ls hl => ?_)
              refine lv_goto (tgt := 35) hx hb dX3_blow_66 (by decide) ?_
              exact ih m9 ((zI (im1 (m9 + 1))) + (-1)) (optI (dnO (blP n fo ki st we lo w) (m9 + 1))) (by exact zI_m1) (by rw [dn_n (show blP n fo ki st we lo w m9 = false from c_50)]) (by omega) (by omega) _ _ hP hD hS ls (lv_sub hl [0, 1, 2, 3] rfl)
            ·
              replace c_50 := bI_n0.mp c_50
              refine lv_iload_n hx hb dX3_blow_53 rfl (lv_at hl 0 rfl) ?_
              refine xtop (x' := nI m9) (by exact zI_s) ?_
              refine lv_goto (tgt := 58) hx hb dX3_blow_54 (by decide) ?_
              refine lv_istore_n (lv' := [(2, .int (nI m9)), (3, .int (zI (im1 (m9 + 1)))), (0, .ref (ad 0)), (1, .int (nI w))]) hx hb dX3_blow_58 rfl hl (by decide) rfl (fun ls hl => ?_)
              refine lv_aload_n hx hb dX3_blow_59 rfl (lv_at hl 2 rfl) ?_
              refine xmuWv (va_runV (As := []) (rest := []) hF (c_X3_bringBack l D cI cS ad fa n fo ki st we (blwL n fo we lo w m9) ra rch q0 q1 q2 q3 fo (kpF n lo fc) rd rc rv sh sle sla bg hd tr hnd (by first | assumption | omega)) (cwV 0 hts gX3_blow_X3_bringBack rfl rfl rfl hV_X3_bringBack ⟨Nat.le_of_ble_eq_true rfl, Nat.le_of_ble_eq_true rfl⟩) (PR.preV hG hP (ci := 3) rfl rfl) rfl rfl hl.1 rfl (lv_room (Nat.le_of_ble_eq_true rfl)) dX3_blow_60 ⟨Nat.le_refl _, Nat.le_refl _⟩) hD hS rfl (fun _ => rfl) (fun u_60 H locs q_60 hP hD hS => ?_)
              try dsimp only at q_60 hP hD
              have hP : va_P D vwCl (wM cI ad fa n fo ki st we (kpF n (kpF n lo fc) (blwL n fo we lo w m9)) ra rch q0 q1 q2 q3 fo (kpF n lo fc) rd rc rv sh sle sla bg hd tr) H := hP
              have hD : va_D (AW (adM ad)) (wM cI ad fa n fo ki st we (kpF n (kpF n lo fc) (blwL n fo we lo w m9)) ra rch q0 q1 q2 q3 fo (kpF n lo fc) rd rc rv sh sle sla bg hd tr) := hD
              rw [kp_blw] at hP hD
              have hP : va_P D vwCl (wM cI ad fa n fo ki st we lo ra rch q0 q1 q2 q3 fo (kpF n lo fc) rd rc rv sh sle sla bg hd tr) H := hP
              have hD : va_D (AW (adM ad)) (wM cI ad fa n fo ki st we lo ra rch q0 q1 q2 q3 fo (kpF n lo fc) rd rc rv sh sle sla bg hd tr) := hD
              refine lv_iinc (v := (zI (im1 (m9 + 1))) + (-1)) (lv' := [(3, .int ((zI (im1 (m9 + 1))) + (-1))), (2, .int (nI m9)), (0, .ref (ad 0)), (1, .int (nI w))]) hx hb dX3_blow_63 hl (k := 1) rfl rfl (by decide) rfl (fun ls hl => ?_)
              refine lv_goto (tgt := 35) hx hb dX3_blow_66 (by decide) ?_
              exact ih m9 ((zI (im1 (m9 + 1))) + (-1)) (nI m9) (by exact zI_m1) (by rw [dn_y (by omega) (show blP n fo ki st we lo w m9 = true from c_50)]; rfl) (by omega) (by omega) _ _ hP hD hS ls (lv_sub hl [0, 1, 2, 3] rfl)
      exact K35 _ 11 (nI 10) (-9) (by first | (rw [dn_11]; rfl) | rfl | omega) (by first | (rw [dn_11]; rfl) | rfl | omega) (by first | (rw [dn_11]; rfl) | rfl | omega) (Nat.lt_succ_self _) _ _ hP hD hS ls (lv_sub hl [0, 1, 2, 3] rfl)
    ·
      replace c_19 := bI_0.mp c_19
      refine lv_bipush (v := (-2)) hx hb dX3_blow_22 (by decide) ?_
      exact xretM hx hb hr hlk dX3_blow_24 hS ⟨fk, fc⟩ (by first | (simp [A_blow, c_4, hn0, c_19]; done) | (rw [dn_0]; simp [A_blow, c_4, hn0, c_19])) (fun t ht => by rw [ht]; exact hP)
  ·
    replace c_4 := (nI_eq (a := n) (b := 0) (by omega) (by omega)).mp c_4
    have hn0 : n = 0 := by omega
    refine lv_bipush (v := (-3)) hx hb dX3_blow_7 (by decide) ?_
    exact xretM hx hb hr hlk dX3_blow_9 hS ⟨fk, fc⟩ (by first | (simp [A_blow, c_4, hn0]; done) | (rw [dn_0]; simp [A_blow, c_4, hn0])) (fun t ht => by rw [ht]; exact hP)

set_option maxHeartbeats 4000000 in
set_option maxRecDepth 100000 in
theorem c_X3_odds (l : Launch) (D : va_G) (cI cS : ClassId) (ad : Nat → Nat) (fa : Nat) (n : Nat) (fo : Nat) (ki : Nat → Nat) (st : Nat → Nat) (we : Nat → Nat) (lo : Nat → Nat) (ra : Nat) (rch : Nat) (q0 : Nat → Int32) (q1 : Nat → Int32) (q2 : Nat → Int32) (q3 : Nat → Int32) (fk : Nat) (fc : Nat → Nat) (rd : Nat) (rc : Nat → Nat) (rv : Nat → Nat) (sh : Nat → Bool) (sle : Nat → Nat) (sla : Nat → Nat) (bg : Nat → Int32) (hd : Nat → Int32) (tr : Int32) (k : Int32) (v : Int32) (hn : n ≤ 8) (hfo : fo < 256) (hki : ∀ j, ki j ≤ 2) (hwe : ∀ j, we j ≤ 9) (hst : ∀ j, st j ≤ 3) (hlo : ∀ j, lo j ≤ 3) : Met l yX3_odds wsX3_odds ({ frames := 3, cells := 0, slots := 0, locals := 66 }) (PR D cI cS [.ref (ad 0), .int k, .int v] (wM cI ad fa n fo ki st we lo ra rch q0 q1 q2 q3 fk fc rd rc rv sh sle sla bg hd tr)) (vp_Sl (fun r => r = A_odds n fo ki we k v)) 0 0 (fun _ => False) := by
  refine startR (by decide) rfl (Nat.le_of_ble_eq_true rfl) ?_
  intro p e s m below meth c hx hb hr hts hown hlk hml hG hP ls hl
  have hl : lv_has ls 10 [(0, .ref (ad 0)), (1, .int k), (2, .int v)] := hl
  have f65 := hts (.fieldLink RX3 65 "ChairBallotModel" "chairs" "I") (by decide +kernel)
  have f114 := hts (.fieldLink RX3 114 "ChairBallotModel" "folded" "I") (by decide +kernel)
  have yX3 : ∀ w ∈ u_ws RX3 TX3 23, w.before _ s = true := fun w h => hts w ((by decide +kernel : ∀ w ∈ wsX30, w ∈ wsX3_odds) w h)
  have hF : CallFix p m c cX3_odds 10 s _ wsX3_odds RX3 := ⟨hx, hb, hml, hown, hts⟩
  have h2n := two_pow_le hn
  have h1n : 1 ≤ 2 ^ n := Nat.one_le_two_pow
  refine lv_aload_n hx hb dX3_odds_0 rfl (lv_at hl 0 rfl) ?_
  refine va_get (D := D) (ci := 3) (v := .int (nI n)) (C := RX3) (T := TX3) (N := 23) hx hb yX3 (fun _ h => h) hown hG.1 hP 0 rfl rfl 1 (by decide) f65 (fun _ h => h) rfl dX3_odds_1 ?_
  refine lv_if_eq (tgt := 45) hx hb dX3_odds_4 (by decide) (fun c_4 => ?_) (fun c_4 => ?_)
  ·
    replace c_4 := (nI_eq (a := n) (b := 0) (by omega) (by omega)).mp c_4
    have hdn : decide (0 < n) = false := decide_eq_false (by omega)
    refine xrdl (va_runS (As := []) (rest := []) hF (c_X3_lost l D cI cS  ) (va_cwS 0 hts gX3_odds_X3_lost rfl rfl rfl hD_X3_lost ⟨Nat.le_of_ble_eq_true rfl, Nat.le_of_ble_eq_true rfl⟩) (PR.pre hG (hP.sub (ws' := []) [] rfl)) rfl rfl hl.1 rfl (lv_room (Nat.le_of_ble_eq_true rfl)) dX3_odds_45 ⟨Nat.le_refl _, Nat.le_refl _⟩) ?_
    exact xretRl hx hb hr hlk dX3_odds_48 (by first | (simp [A_odds, lostL, c_4, hdn]; done) | (simp [A_odds, lostL, hasB_m1, c_4, hdn]; done))
  ·
    replace c_4 := (not_congr (nI_eq (a := n) (b := 0) (by omega) (by omega))).mp c_4
    have hdn : decide (0 < n) = true := decide_eq_true (by omega)
    refine lv_iload_n hx hb dX3_odds_7 rfl (lv_at hl 1 rfl) ?_
    refine lv_iconst (v := (-1)) hx hb dX3_odds_8 (by decide) ?_
    refine lv_icmp_eq (tgt := 20) hx hb dX3_odds_9 (by decide) (fun c_9 => ?_) (fun c_9 => ?_)
    ·
      subst c_9
      refine lv_iload_n hx hb dX3_odds_20 rfl (lv_at hl 2 rfl) ?_
      refine lv_i2l (v := v.toInt64) hx hb dX3_odds_21 rfl ?_
      refine lv_lconst (v := lN 0) hx hb dX3_odds_22 rfl ?_
      refine lv_lconst (v := lN 1) hx hb dX3_odds_23 rfl ?_
      refine xrd (va_runS (As := [.long v.toInt64, .long (lN 0), .long (lN 1)]) (rest := []) hF (c_X3_in l D cI cS v 0 1 (by first | assumption | omega) (by first | assumption | omega)) (va_cwS 3 hts gX3_odds_X3_in rfl rfl rfl hD_X3_in ⟨Nat.le_of_ble_eq_true rfl, Nat.le_of_ble_eq_true rfl⟩) (PR.pre hG (hP.sub (ws' := []) [] rfl)) rfl rfl hl.1 rfl (lv_room (Nat.le_of_ble_eq_true rfl)) dX3_odds_24 ⟨Nat.le_refl _, Nat.le_refl _⟩) ?_
      refine xtop (x' := bI (rgB 0 1 v)) rfl ?_
      refine lv_if_eq (tgt := 45) hx hb dX3_odds_27 (by decide) (fun c_27 => ?_) (fun c_27 => ?_)
      ·
        replace c_27 := bI_0.mp c_27
        refine xrdl (va_runS (As := []) (rest := []) hF (c_X3_lost l D cI cS  ) (va_cwS 0 hts gX3_odds_X3_lost rfl rfl rfl hD_X3_lost ⟨Nat.le_of_ble_eq_true rfl, Nat.le_of_ble_eq_true rfl⟩) (PR.pre hG (hP.sub (ws' := []) [] rfl)) rfl rfl hl.1 rfl (lv_room (Nat.le_of_ble_eq_true rfl)) dX3_odds_45 ⟨Nat.le_refl _, Nat.le_refl _⟩) ?_
        exact xretRl hx hb hr hlk dX3_odds_48 (by first | (simp [A_odds, lostL, c_4, hdn, c_27]; done) | (simp [A_odds, lostL, hasB_m1, c_4, hdn, c_27]; done))
      ·
        replace c_27 := bI_n0.mp c_27
        obtain ⟨w, hw0, hw1, rfl⟩ := rgB_nat (by decide) c_27
        have hclw := cl8 (j := w) (by omega)
        refine lv_iload_n hx hb dX3_odds_30 rfl (lv_at hl 1 rfl) ?_
        refine lv_if_lt (tgt := 49) hx hb dX3_odds_31 (by decide) (fun c_31 => ?_) (fun c_31 => ?_)
        ·
          refine lv_lconst (v := lN 0) hx hb dX3_odds_49 rfl ?_
          refine lv_lstore_n (lv' := [(3, .long (lN 0)), (0, .ref (ad 0)), (1, .int (-1)), (2, .int (nI w))]) hx hb dX3_odds_50 rfl hl (by decide) rfl (fun ls hl => ?_)
          refine lv_lconst (v := lN 0) hx hb dX3_odds_51 rfl ?_
          refine lv_lstore (lv' := [(5, .long (lN 0)), (3, .long (lN 0)), (0, .ref (ad 0)), (1, .int (-1)), (2, .int (nI w))]) hx hb dX3_odds_52 hl (by decide) rfl (fun ls hl => ?_)
          refine lv_iconst (v := nI 0) hx hb dX3_odds_54 (by decide) ?_
          refine lv_istore (lv' := [(7, .int (nI 0)), (5, .long (lN 0)), (3, .long (lN 0)), (0, .ref (ad 0)), (1, .int (-1)), (2, .int (nI w))]) hx hb dX3_odds_55 hl (by decide) rfl (fun ls hl => ?_)
          have K57 : ∀ (fuel : Nat) (i : Nat) (x5 : Int64) (x3 : Int64), x5 = lN (cntN (lowA fo) i) → x3 = lN (cntN (upA n fo ki we) i) → (i ≤ 2 ^ n) → (2 ^ n - i) < fuel → ∀ ls : Array Slot, lv_has ls 10 [(7, .int (nI i)), (5, .long x5), (3, .long x3), (0, .ref (ad 0)), (1, .int (-1)), (2, .int (nI w))] → W p l e ({ frames := 3, cells := 0, slots := 0, locals := 66 }) s m (([.ref (ad 0), .int (-1), .int (nI w)] : List Value).toArray) below meth c s.heap [] 0 0 (MQ below (vp_Sl (fun r => r = A_odds n fo ki we (-1) (nI w))) (([.ref (ad 0), .int (-1), .int (nI w)] : List Value).toArray) s 0 0 (fun _ => False)) (F0 m 57 ls []) := by
            intro fuel
            induction fuel with
            | zero => intro i x5 x3 e_x5 e_x3 hi hmu; exact absurd hmu (Nat.not_lt_zero _)
            | succ fuel ih =>
              intro i x5 x3 e_x5 e_x3 hi hmu ls hl
              subst e_x5
              subst e_x3
              have hai := and_lt (a := i) hfo
              refine lv_iload hx hb dX3_odds_57 (lv_at hl 0 rfl) ?_
              refine lv_aload_n hx hb dX3_odds_59 rfl (lv_at hl 3 rfl) ?_
              refine xrd (va_runV (As := []) (rest := [.int (nI i)]) hF (c_X3_everyChair l D cI cS ad fa n fo ki st we lo ra rch q0 q1 q2 q3 fk fc rd rc rv sh sle sla bg hd tr (by first | assumption | omega)) (cwV 0 hts gX3_odds_X3_everyChair rfl rfl rfl hV_X3_everyChair ⟨Nat.le_of_ble_eq_true rfl, Nat.le_of_ble_eq_true rfl⟩) (PR.preV hG hP (ci := 3) rfl rfl) rfl rfl hl.1 rfl (lv_room (Nat.le_of_ble_eq_true rfl)) dX3_odds_60 ⟨Nat.le_refl _, Nat.le_refl _⟩) ?_
              refine lv_icmp_gt (tgt := 168) hx hb dX3_odds_63 (by decide) (fun c_63 => ?_) (fun c_63 => ?_)
              ·
                replace c_63 := (nI_ltI (a := 2 ^ n - 1) (b := i) (by omega) (by omega)).mp c_63
                have hin : i = 2 ^ n := by omega
                subst hin
                refine lv_lload_n hx hb dX3_odds_168 rfl (lv_at hl 2 rfl) ?_
                refine lv_lload hx hb dX3_odds_169 (lv_at hl 1 rfl) ?_
                refine lv_iload_n hx hb dX3_odds_171 rfl (lv_at hl 5 rfl) ?_
                refine xrdl (va_runS (As := [.long (lN (cntN (upA n fo ki we) (2 ^ n))), .long (lN (cntN (lowA fo) (2 ^ n))), .int (nI w)]) (rest := []) hF (c_X3_share l D cI cS (cntN (upA n fo ki we) (2 ^ n)) (cntN (lowA fo) (2 ^ n)) w (by first | (have h9 := cntN_le (upA n fo ki we) (2 ^ n); omega) | (have h9 := cntN_le (upK n fo ki we j) (2 ^ n); omega)) (by first | exact la_pos | exact lk_pos hj c_42) (by first | (have h9 := cntN_le (lowA fo) (2 ^ n); omega) | (have h9 := cntN_le (lowK fo j) (2 ^ n); omega)) (by omega)) (va_cwS 3 hts gX3_odds_X3_share rfl rfl rfl hD_X3_share ⟨Nat.le_of_ble_eq_true rfl, Nat.le_of_ble_eq_true rfl⟩) (PR.pre hG (hP.sub (ws' := []) [] rfl)) rfl rfl hl.1 rfl (lv_room (Nat.le_of_ble_eq_true rfl)) dX3_odds_172 ⟨Nat.le_refl _, Nat.le_refl _⟩) ?_
                exact xretRl hx hb hr hlk dX3_odds_175 (by rw [odds_a hdn c_27 hclw])
              ·
                replace c_63 := (not_congr (nI_ltI (a := 2 ^ n - 1) (b := i) (by omega) (by omega))).mp c_63
                refine lv_iload hx hb dX3_odds_66 (lv_at hl 0 rfl) ?_
                refine lv_aload_n hx hb dX3_odds_68 rfl (lv_at hl 3 rfl) ?_
                refine va_get (D := D) (ci := 3) (v := .int (nI fo)) (C := RX3) (T := TX3) (N := 23) hx hb yX3 (fun _ h => h) hown hG.1 hP 0 rfl rfl 2 (by decide) f114 (fun _ h => h) rfl dX3_odds_69 ?_
                refine lv_iand hx hb dX3_odds_72 ?_
                refine xtop (x' := nI (i &&& fo)) (nI_and _ _) ?_
                refine lv_if_ne (tgt := 93) hx hb dX3_odds_73 (by decide) (fun c_73 => ?_) (fun c_73 => ?_)
                ·
                  replace c_73 := (not_congr (nI_eq (a := i &&& fo) (b := 0) (by omega) (by omega))).mp c_73
                  refine lv_iconst (v := nI 0) hx hb dX3_odds_93 (by decide) ?_
                  refine lv_istore (lv' := [(8, .int (nI 0)), (7, .int (nI i)), (5, .long (lN (cntN (lowA fo) i))), (3, .long (lN (cntN (upA n fo ki we) i))), (0, .ref (ad 0)), (1, .int (-1)), (2, .int (nI w))]) hx hb dX3_odds_94 hl (by decide) rfl (fun ls hl => ?_)
                  refine lv_aload_n hx hb dX3_odds_96 rfl (lv_at hl 4 rfl) ?_
                  refine lv_iload hx hb dX3_odds_97 (lv_at hl 1 rfl) ?_
                  refine xrd (va_runV (As := [.int (nI i)]) (rest := []) hF (c_X3_moreBy l D cI cS ad fa n fo ki st we lo ra rch q0 q1 q2 q3 fk fc rd rc rv sh sle sla bg hd tr i (by first | assumption | omega) (by first | assumption | omega) (by first | assumption | omega) (by first | assumption | omega) (by first | omega | exact xor_256 (by omega) (by omega))) (cwV 1 hts gX3_odds_X3_moreBy rfl rfl rfl hV_X3_moreBy ⟨Nat.le_of_ble_eq_true rfl, Nat.le_of_ble_eq_true rfl⟩) (PR.preV hG hP (ci := 3) rfl rfl) rfl rfl hl.1 rfl (lv_room (Nat.le_of_ble_eq_true rfl)) dX3_odds_99 ⟨Nat.le_refl _, Nat.le_refl _⟩) ?_
                  refine lv_if_le (tgt := 126) hx hb dX3_odds_102 (by decide) (fun c_102 => ?_) (fun c_102 => ?_)
                  ·
                    replace c_102 : (zI (mrZ n fo ki we i)).toInt ≤ 0 := (i32_lec (b := 0) (by omega)).mp c_102
                    refine lv_iconst (v := nI 0) hx hb dX3_odds_126 (by decide) ?_
                    refine lv_istore (lv' := [(9, .int (nI 0)), (8, .int (nI 0)), (7, .int (nI i)), (5, .long (lN (cntN (lowA fo) i))), (3, .long (lN (cntN (upA n fo ki we) i))), (0, .ref (ad 0)), (1, .int (-1)), (2, .int (nI w))]) hx hb dX3_odds_127 hl (by decide) rfl (fun ls hl => ?_)
                    refine lv_lload hx hb dX3_odds_129 (lv_at hl 3 rfl) ?_
                    refine lv_iload hx hb dX3_odds_131 (lv_at hl 1 rfl) ?_
                    refine lv_if_eq (tgt := 140) hx hb dX3_odds_133 (by decide) (fun c_133 => ?_) (fun c_133 => ?_)
                    ·
                      refine lv_lconst (v := lN 0) hx hb dX3_odds_140 rfl ?_
                      refine xladdN hx hb dX3_odds_141 ?_
                      refine lv_lstore (lv' := [(5, .long (lN ((cntN (lowA fo) i) + 0))), (9, .int (nI 0)), (8, .int (nI 0)), (7, .int (nI i)), (3, .long (lN (cntN (upA n fo ki we) i))), (0, .ref (ad 0)), (1, .int (-1)), (2, .int (nI w))]) hx hb dX3_odds_142 hl (by decide) rfl (fun ls hl => ?_)
                      refine lv_lload_n hx hb dX3_odds_144 rfl (lv_at hl 4 rfl) ?_
                      refine lv_iload hx hb dX3_odds_145 (lv_at hl 2 rfl) ?_
                      refine lv_if_eq (tgt := 159) hx hb dX3_odds_147 (by decide) (fun c_147 => ?_) (fun c_147 => ?_)
                      ·
                        refine lv_lconst (v := lN 0) hx hb dX3_odds_159 rfl ?_
                        refine xladdN hx hb dX3_odds_160 ?_
                        refine lv_lstore_n (lv' := [(3, .long (lN ((cntN (upA n fo ki we) i) + 0))), (5, .long (lN ((cntN (lowA fo) i) + 0))), (9, .int (nI 0)), (8, .int (nI 0)), (7, .int (nI i)), (0, .ref (ad 0)), (1, .int (-1)), (2, .int (nI w))]) hx hb dX3_odds_161 rfl hl (by decide) rfl (fun ls hl => ?_)
                        refine lv_iinc (v := nI (i + 1)) (lv' := [(7, .int (nI (i + 1))), (3, .long (lN ((cntN (upA n fo ki we) i) + 0))), (5, .long (lN ((cntN (lowA fo) i) + 0))), (9, .int (nI 0)), (8, .int (nI 0)), (0, .ref (ad 0)), (1, .int (-1)), (2, .int (nI w))]) hx hb dX3_odds_162 hl (k := 4) rfl xinc1 (by decide) rfl (fun ls hl => ?_)
                        refine lv_goto (tgt := 57) hx hb dX3_odds_165 (by decide) ?_
                        exact ih (i + 1) (lN ((cntN (lowA fo) i) + 0)) (lN ((cntN (upA n fo ki we) i) + 0)) (by rw [cnt_n (la_n c_73), Nat.add_zero]) (by rw [cnt_n (ua_l (la_n c_73)), Nat.add_zero]) (by omega) (by omega) ls (lv_sub hl [0, 2, 1, 5, 6, 7] rfl)
                      · exact absurd (by decide) c_147
                    · exact absurd (by decide) c_133
                  ·
                    replace c_102 : ¬ (zI (mrZ n fo ki we i)).toInt ≤ 0 := (not_congr (i32_lec (b := 0) (by omega))).mp c_102
                    refine lv_iload_n hx hb dX3_odds_105 rfl (lv_at hl 5 rfl) ?_
                    refine lv_if_lt (tgt := 122) hx hb dX3_odds_106 (by decide) (fun c_106 => ?_) (fun c_106 => ?_)
                    ·
                      refine lv_iconst (v := nI 1) hx hb dX3_odds_122 (by decide) ?_
                      refine lv_goto (tgt := 127) hx hb dX3_odds_123 (by decide) ?_
                      refine lv_istore (lv' := [(9, .int (nI 1)), (8, .int (nI 0)), (7, .int (nI i)), (5, .long (lN (cntN (lowA fo) i))), (3, .long (lN (cntN (upA n fo ki we) i))), (0, .ref (ad 0)), (1, .int (-1)), (2, .int (nI w))]) hx hb dX3_odds_127 hl (by decide) rfl (fun ls hl => ?_)
                      refine lv_lload hx hb dX3_odds_129 (lv_at hl 3 rfl) ?_
                      refine lv_iload hx hb dX3_odds_131 (lv_at hl 1 rfl) ?_
                      refine lv_if_eq (tgt := 140) hx hb dX3_odds_133 (by decide) (fun c_133 => ?_) (fun c_133 => ?_)
                      ·
                        refine lv_lconst (v := lN 0) hx hb dX3_odds_140 rfl ?_
                        refine xladdN hx hb dX3_odds_141 ?_
                        refine lv_lstore (lv' := [(5, .long (lN ((cntN (lowA fo) i) + 0))), (9, .int (nI 1)), (8, .int (nI 0)), (7, .int (nI i)), (3, .long (lN (cntN (upA n fo ki we) i))), (0, .ref (ad 0)), (1, .int (-1)), (2, .int (nI w))]) hx hb dX3_odds_142 hl (by decide) rfl (fun ls hl => ?_)
                        refine lv_lload_n hx hb dX3_odds_144 rfl (lv_at hl 4 rfl) ?_
                        refine lv_iload hx hb dX3_odds_145 (lv_at hl 2 rfl) ?_
                        refine lv_if_eq (tgt := 159) hx hb dX3_odds_147 (by decide) (fun c_147 => ?_) (fun c_147 => ?_)
                        ·
                          refine lv_lconst (v := lN 0) hx hb dX3_odds_159 rfl ?_
                          refine xladdN hx hb dX3_odds_160 ?_
                          refine lv_lstore_n (lv' := [(3, .long (lN ((cntN (upA n fo ki we) i) + 0))), (5, .long (lN ((cntN (lowA fo) i) + 0))), (9, .int (nI 1)), (8, .int (nI 0)), (7, .int (nI i)), (0, .ref (ad 0)), (1, .int (-1)), (2, .int (nI w))]) hx hb dX3_odds_161 rfl hl (by decide) rfl (fun ls hl => ?_)
                          refine lv_iinc (v := nI (i + 1)) (lv' := [(7, .int (nI (i + 1))), (3, .long (lN ((cntN (upA n fo ki we) i) + 0))), (5, .long (lN ((cntN (lowA fo) i) + 0))), (9, .int (nI 1)), (8, .int (nI 0)), (0, .ref (ad 0)), (1, .int (-1)), (2, .int (nI w))]) hx hb dX3_odds_162 hl (k := 4) rfl xinc1 (by decide) rfl (fun ls hl => ?_)
                          refine lv_goto (tgt := 57) hx hb dX3_odds_165 (by decide) ?_
                          exact ih (i + 1) (lN ((cntN (lowA fo) i) + 0)) (lN ((cntN (upA n fo ki we) i) + 0)) (by rw [cnt_n (la_n c_73), Nat.add_zero]) (by rw [cnt_n (ua_l (la_n c_73)), Nat.add_zero]) (by omega) (by omega) ls (lv_sub hl [0, 2, 1, 5, 6, 7] rfl)
                        · exact absurd (by decide) c_147
                      · exact absurd (by decide) c_133
                    · exact absurd (by decide) c_106
                ·
                  replace c_73 := (nI_eq (a := i &&& fo) (b := 0) (by omega) (by omega)).mp c_73
                  refine lv_iload_n hx hb dX3_odds_76 rfl (lv_at hl 4 rfl) ?_
                  refine lv_if_lt (tgt := 89) hx hb dX3_odds_77 (by decide) (fun c_77 => ?_) (fun c_77 => ?_)
                  ·
                    refine lv_iconst (v := nI 1) hx hb dX3_odds_89 (by decide) ?_
                    refine lv_goto (tgt := 94) hx hb dX3_odds_90 (by decide) ?_
                    refine lv_istore (lv' := [(8, .int (nI 1)), (7, .int (nI i)), (5, .long (lN (cntN (lowA fo) i))), (3, .long (lN (cntN (upA n fo ki we) i))), (0, .ref (ad 0)), (1, .int (-1)), (2, .int (nI w))]) hx hb dX3_odds_94 hl (by decide) rfl (fun ls hl => ?_)
                    refine lv_aload_n hx hb dX3_odds_96 rfl (lv_at hl 4 rfl) ?_
                    refine lv_iload hx hb dX3_odds_97 (lv_at hl 1 rfl) ?_
                    refine xrd (va_runV (As := [.int (nI i)]) (rest := []) hF (c_X3_moreBy l D cI cS ad fa n fo ki st we lo ra rch q0 q1 q2 q3 fk fc rd rc rv sh sle sla bg hd tr i (by first | assumption | omega) (by first | assumption | omega) (by first | assumption | omega) (by first | assumption | omega) (by first | omega | exact xor_256 (by omega) (by omega))) (cwV 1 hts gX3_odds_X3_moreBy rfl rfl rfl hV_X3_moreBy ⟨Nat.le_of_ble_eq_true rfl, Nat.le_of_ble_eq_true rfl⟩) (PR.preV hG hP (ci := 3) rfl rfl) rfl rfl hl.1 rfl (lv_room (Nat.le_of_ble_eq_true rfl)) dX3_odds_99 ⟨Nat.le_refl _, Nat.le_refl _⟩) ?_
                    refine lv_if_le (tgt := 126) hx hb dX3_odds_102 (by decide) (fun c_102 => ?_) (fun c_102 => ?_)
                    ·
                      replace c_102 : (zI (mrZ n fo ki we i)).toInt ≤ 0 := (i32_lec (b := 0) (by omega)).mp c_102
                      refine lv_iconst (v := nI 0) hx hb dX3_odds_126 (by decide) ?_
                      refine lv_istore (lv' := [(9, .int (nI 0)), (8, .int (nI 1)), (7, .int (nI i)), (5, .long (lN (cntN (lowA fo) i))), (3, .long (lN (cntN (upA n fo ki we) i))), (0, .ref (ad 0)), (1, .int (-1)), (2, .int (nI w))]) hx hb dX3_odds_127 hl (by decide) rfl (fun ls hl => ?_)
                      refine lv_lload hx hb dX3_odds_129 (lv_at hl 3 rfl) ?_
                      refine lv_iload hx hb dX3_odds_131 (lv_at hl 1 rfl) ?_
                      refine lv_if_eq (tgt := 140) hx hb dX3_odds_133 (by decide) (fun c_133 => ?_) (fun c_133 => ?_)
                      · exact absurd c_133 (by decide)
                      ·
                        refine lv_lconst (v := lN 1) hx hb dX3_odds_136 rfl ?_
                        refine lv_goto (tgt := 141) hx hb dX3_odds_137 (by decide) ?_
                        refine xladdN hx hb dX3_odds_141 ?_
                        refine lv_lstore (lv' := [(5, .long (lN ((cntN (lowA fo) i) + 1))), (9, .int (nI 0)), (8, .int (nI 1)), (7, .int (nI i)), (3, .long (lN (cntN (upA n fo ki we) i))), (0, .ref (ad 0)), (1, .int (-1)), (2, .int (nI w))]) hx hb dX3_odds_142 hl (by decide) rfl (fun ls hl => ?_)
                        refine lv_lload_n hx hb dX3_odds_144 rfl (lv_at hl 4 rfl) ?_
                        refine lv_iload hx hb dX3_odds_145 (lv_at hl 2 rfl) ?_
                        refine lv_if_eq (tgt := 159) hx hb dX3_odds_147 (by decide) (fun c_147 => ?_) (fun c_147 => ?_)
                        · exact absurd c_147 (by decide)
                        ·
                          refine lv_iload hx hb dX3_odds_150 (lv_at hl 1 rfl) ?_
                          refine lv_if_eq (tgt := 159) hx hb dX3_odds_152 (by decide) (fun c_152 => ?_) (fun c_152 => ?_)
                          ·
                            refine lv_lconst (v := lN 0) hx hb dX3_odds_159 rfl ?_
                            refine xladdN hx hb dX3_odds_160 ?_
                            refine lv_lstore_n (lv' := [(3, .long (lN ((cntN (upA n fo ki we) i) + 0))), (5, .long (lN ((cntN (lowA fo) i) + 1))), (9, .int (nI 0)), (8, .int (nI 1)), (7, .int (nI i)), (0, .ref (ad 0)), (1, .int (-1)), (2, .int (nI w))]) hx hb dX3_odds_161 rfl hl (by decide) rfl (fun ls hl => ?_)
                            refine lv_iinc (v := nI (i + 1)) (lv' := [(7, .int (nI (i + 1))), (3, .long (lN ((cntN (upA n fo ki we) i) + 0))), (5, .long (lN ((cntN (lowA fo) i) + 1))), (9, .int (nI 0)), (8, .int (nI 1)), (0, .ref (ad 0)), (1, .int (-1)), (2, .int (nI w))]) hx hb dX3_odds_162 hl (k := 4) rfl xinc1 (by decide) rfl (fun ls hl => ?_)
                            refine lv_goto (tgt := 57) hx hb dX3_odds_165 (by decide) ?_
                            exact ih (i + 1) (lN ((cntN (lowA fo) i) + 1)) (lN ((cntN (upA n fo ki we) i) + 0)) (by rw [cnt_y (la_y c_73)]) (by rw [cnt_n (ua_m (mz_le hwe hn c_102)), Nat.add_zero]) (by omega) (by omega) ls (lv_sub hl [0, 2, 1, 5, 6, 7] rfl)
                          · exact absurd (by decide) c_152
                    ·
                      replace c_102 : ¬ (zI (mrZ n fo ki we i)).toInt ≤ 0 := (not_congr (i32_lec (b := 0) (by omega))).mp c_102
                      refine lv_iload_n hx hb dX3_odds_105 rfl (lv_at hl 5 rfl) ?_
                      refine lv_if_lt (tgt := 122) hx hb dX3_odds_106 (by decide) (fun c_106 => ?_) (fun c_106 => ?_)
                      ·
                        refine lv_iconst (v := nI 1) hx hb dX3_odds_122 (by decide) ?_
                        refine lv_goto (tgt := 127) hx hb dX3_odds_123 (by decide) ?_
                        refine lv_istore (lv' := [(9, .int (nI 1)), (8, .int (nI 1)), (7, .int (nI i)), (5, .long (lN (cntN (lowA fo) i))), (3, .long (lN (cntN (upA n fo ki we) i))), (0, .ref (ad 0)), (1, .int (-1)), (2, .int (nI w))]) hx hb dX3_odds_127 hl (by decide) rfl (fun ls hl => ?_)
                        refine lv_lload hx hb dX3_odds_129 (lv_at hl 3 rfl) ?_
                        refine lv_iload hx hb dX3_odds_131 (lv_at hl 1 rfl) ?_
                        refine lv_if_eq (tgt := 140) hx hb dX3_odds_133 (by decide) (fun c_133 => ?_) (fun c_133 => ?_)
                        · exact absurd c_133 (by decide)
                        ·
                          refine lv_lconst (v := lN 1) hx hb dX3_odds_136 rfl ?_
                          refine lv_goto (tgt := 141) hx hb dX3_odds_137 (by decide) ?_
                          refine xladdN hx hb dX3_odds_141 ?_
                          refine lv_lstore (lv' := [(5, .long (lN ((cntN (lowA fo) i) + 1))), (9, .int (nI 1)), (8, .int (nI 1)), (7, .int (nI i)), (3, .long (lN (cntN (upA n fo ki we) i))), (0, .ref (ad 0)), (1, .int (-1)), (2, .int (nI w))]) hx hb dX3_odds_142 hl (by decide) rfl (fun ls hl => ?_)
                          refine lv_lload_n hx hb dX3_odds_144 rfl (lv_at hl 4 rfl) ?_
                          refine lv_iload hx hb dX3_odds_145 (lv_at hl 2 rfl) ?_
                          refine lv_if_eq (tgt := 159) hx hb dX3_odds_147 (by decide) (fun c_147 => ?_) (fun c_147 => ?_)
                          · exact absurd c_147 (by decide)
                          ·
                            refine lv_iload hx hb dX3_odds_150 (lv_at hl 1 rfl) ?_
                            refine lv_if_eq (tgt := 159) hx hb dX3_odds_152 (by decide) (fun c_152 => ?_) (fun c_152 => ?_)
                            · exact absurd c_152 (by decide)
                            ·
                              refine lv_lconst (v := lN 1) hx hb dX3_odds_155 rfl ?_
                              refine lv_goto (tgt := 160) hx hb dX3_odds_156 (by decide) ?_
                              refine xladdN hx hb dX3_odds_160 ?_
                              refine lv_lstore_n (lv' := [(3, .long (lN ((cntN (upA n fo ki we) i) + 1))), (5, .long (lN ((cntN (lowA fo) i) + 1))), (9, .int (nI 1)), (8, .int (nI 1)), (7, .int (nI i)), (0, .ref (ad 0)), (1, .int (-1)), (2, .int (nI w))]) hx hb dX3_odds_161 rfl hl (by decide) rfl (fun ls hl => ?_)
                              refine lv_iinc (v := nI (i + 1)) (lv' := [(7, .int (nI (i + 1))), (3, .long (lN ((cntN (upA n fo ki we) i) + 1))), (5, .long (lN ((cntN (lowA fo) i) + 1))), (9, .int (nI 1)), (8, .int (nI 1)), (0, .ref (ad 0)), (1, .int (-1)), (2, .int (nI w))]) hx hb dX3_odds_162 hl (k := 4) rfl xinc1 (by decide) rfl (fun ls hl => ?_)
                              refine lv_goto (tgt := 57) hx hb dX3_odds_165 (by decide) ?_
                              exact ih (i + 1) (lN ((cntN (lowA fo) i) + 1)) (lN ((cntN (upA n fo ki we) i) + 1)) (by rw [cnt_y (la_y c_73)]) (by rw [cnt_y (ua_y (la_y c_73) (mz_gt2 hwe hn c_102))]) (by omega) (by omega) ls (lv_sub hl [0, 2, 1, 5, 6, 7] rfl)
                      · exact absurd (by decide) c_106
                  · exact absurd (by decide) c_77
          exact K57 _ 0 (lN 0) (lN 0) (by first | rfl | exact Nat.zero_le _) (by first | rfl | exact Nat.zero_le _) (by first | rfl | exact Nat.zero_le _) (Nat.lt_succ_self _) ls (lv_sub hl [0, 1, 2, 3, 4, 5] rfl)
        · exact absurd (by decide) c_31
    ·
      refine lv_aload_n hx hb dX3_odds_12 rfl (lv_at hl 0 rfl) ?_
      refine lv_iload_n hx hb dX3_odds_13 rfl (lv_at hl 1 rfl) ?_
      refine xrd (va_runV (As := [.int k]) (rest := []) hF (c_X3_noChair l D cI cS ad fa n fo ki st we lo ra rch q0 q1 q2 q3 fk fc rd rc rv sh sle sla bg hd tr k (by first | assumption | omega)) (cwV 1 hts gX3_odds_X3_noChair rfl rfl rfl hV_X3_noChair ⟨Nat.le_of_ble_eq_true rfl, Nat.le_of_ble_eq_true rfl⟩) (PR.preV hG hP (ci := 3) rfl rfl) rfl rfl hl.1 rfl (lv_room (Nat.le_of_ble_eq_true rfl)) dX3_odds_14 ⟨Nat.le_refl _, Nat.le_refl _⟩) ?_
      refine lv_if_ne (tgt := 45) hx hb dX3_odds_17 (by decide) (fun c_17 => ?_) (fun c_17 => ?_)
      ·
        replace c_17 := bI_n0.mp c_17
        replace c_17 := (by simpa using c_17 : (hasB n k) = false)
        refine xrdl (va_runS (As := []) (rest := []) hF (c_X3_lost l D cI cS  ) (va_cwS 0 hts gX3_odds_X3_lost rfl rfl rfl hD_X3_lost ⟨Nat.le_of_ble_eq_true rfl, Nat.le_of_ble_eq_true rfl⟩) (PR.pre hG (hP.sub (ws' := []) [] rfl)) rfl rfl hl.1 rfl (lv_room (Nat.le_of_ble_eq_true rfl)) dX3_odds_45 ⟨Nat.le_refl _, Nat.le_refl _⟩) ?_
        exact xretRl hx hb hr hlk dX3_odds_48 (by first | (simp [A_odds, lostL, c_4, hdn, c_9, c_17]; done) | (simp [A_odds, lostL, hasB_m1, c_4, hdn, c_9, c_17]; done))
      ·
        replace c_17 := bI_0.mp c_17
        replace c_17 := (by simpa using c_17 : (hasB n k) = true)
        obtain ⟨j, hj, rfl⟩ := hasB_t c_17
        have hclj := cl8 (j := j) (by omega)
        have hm1 : ¬ nI j = -1 := nI_m1 (by omega)
        refine lv_iload_n hx hb dX3_odds_20 rfl (lv_at hl 2 rfl) ?_
        refine lv_i2l (v := v.toInt64) hx hb dX3_odds_21 rfl ?_
        refine lv_lconst (v := lN 0) hx hb dX3_odds_22 rfl ?_
        refine lv_lconst (v := lN 1) hx hb dX3_odds_23 rfl ?_
        refine xrd (va_runS (As := [.long v.toInt64, .long (lN 0), .long (lN 1)]) (rest := []) hF (c_X3_in l D cI cS v 0 1 (by first | assumption | omega) (by first | assumption | omega)) (va_cwS 3 hts gX3_odds_X3_in rfl rfl rfl hD_X3_in ⟨Nat.le_of_ble_eq_true rfl, Nat.le_of_ble_eq_true rfl⟩) (PR.pre hG (hP.sub (ws' := []) [] rfl)) rfl rfl hl.1 rfl (lv_room (Nat.le_of_ble_eq_true rfl)) dX3_odds_24 ⟨Nat.le_refl _, Nat.le_refl _⟩) ?_
        refine xtop (x' := bI (rgB 0 1 v)) rfl ?_
        refine lv_if_eq (tgt := 45) hx hb dX3_odds_27 (by decide) (fun c_27 => ?_) (fun c_27 => ?_)
        ·
          replace c_27 := bI_0.mp c_27
          refine xrdl (va_runS (As := []) (rest := []) hF (c_X3_lost l D cI cS  ) (va_cwS 0 hts gX3_odds_X3_lost rfl rfl rfl hD_X3_lost ⟨Nat.le_of_ble_eq_true rfl, Nat.le_of_ble_eq_true rfl⟩) (PR.pre hG (hP.sub (ws' := []) [] rfl)) rfl rfl hl.1 rfl (lv_room (Nat.le_of_ble_eq_true rfl)) dX3_odds_45 ⟨Nat.le_refl _, Nat.le_refl _⟩) ?_
          exact xretRl hx hb hr hlk dX3_odds_48 (by first | (simp [A_odds, lostL, c_4, hdn, c_9, c_17, hclj, hm1, c_27]; done) | (simp [A_odds, lostL, hasB_m1, c_4, hdn, c_9, c_17, hclj, hm1, c_27]; done))
        ·
          replace c_27 := bI_n0.mp c_27
          obtain ⟨w, hw0, hw1, rfl⟩ := rgB_nat (by decide) c_27
          have hclw := cl8 (j := w) (by omega)
          refine lv_iload_n hx hb dX3_odds_30 rfl (lv_at hl 1 rfl) ?_
          refine lv_if_lt (tgt := 49) hx hb dX3_odds_31 (by decide) (fun c_31 => ?_) (fun c_31 => ?_)
          · exact absurd c_31 (nI_nn (by omega))
          ·
            refine lv_aload_n hx hb dX3_odds_34 rfl (lv_at hl 0 rfl) ?_
            refine va_get (D := D) (ci := 3) (v := .int (nI fo)) (C := RX3) (T := TX3) (N := 23) hx hb yX3 (fun _ h => h) hown hG.1 hP 0 rfl rfl 2 (by decide) f114 (fun _ h => h) rfl dX3_odds_35 ?_
            refine lv_iload_n hx hb dX3_odds_38 rfl (lv_at hl 1 rfl) ?_
            refine xrd (va_runS (As := [.int (nI fo), .int (nI j)]) (rest := []) hF (c_X3_isIn l D cI cS fo j (by first | assumption | omega) (by first | assumption | omega)) (va_cwS 2 hts gX3_odds_X3_isIn rfl rfl rfl hD_X3_isIn ⟨Nat.le_of_ble_eq_true rfl, Nat.le_of_ble_eq_true rfl⟩) (PR.pre hG (hP.sub (ws' := []) [] rfl)) rfl rfl hl.1 rfl (lv_room (Nat.le_of_ble_eq_true rfl)) dX3_odds_39 ⟨Nat.le_refl _, Nat.le_refl _⟩) ?_
            refine lv_if_eq (tgt := 49) hx hb dX3_odds_42 (by decide) (fun c_42 => ?_) (fun c_42 => ?_)
            ·
              replace c_42 := bI_0.mp c_42
              refine lv_lconst (v := lN 0) hx hb dX3_odds_49 rfl ?_
              refine lv_lstore_n (lv' := [(3, .long (lN 0)), (0, .ref (ad 0)), (1, .int (nI j)), (2, .int (nI w))]) hx hb dX3_odds_50 rfl hl (by decide) rfl (fun ls hl => ?_)
              refine lv_lconst (v := lN 0) hx hb dX3_odds_51 rfl ?_
              refine lv_lstore (lv' := [(5, .long (lN 0)), (3, .long (lN 0)), (0, .ref (ad 0)), (1, .int (nI j)), (2, .int (nI w))]) hx hb dX3_odds_52 hl (by decide) rfl (fun ls hl => ?_)
              refine lv_iconst (v := nI 0) hx hb dX3_odds_54 (by decide) ?_
              refine lv_istore (lv' := [(7, .int (nI 0)), (5, .long (lN 0)), (3, .long (lN 0)), (0, .ref (ad 0)), (1, .int (nI j)), (2, .int (nI w))]) hx hb dX3_odds_55 hl (by decide) rfl (fun ls hl => ?_)
              have K57 : ∀ (fuel : Nat) (i : Nat) (x5 : Int64) (x3 : Int64), x5 = lN (cntN (lowK fo j) i) → x3 = lN (cntN (upK n fo ki we j) i) → (i ≤ 2 ^ n) → (2 ^ n - i) < fuel → ∀ ls : Array Slot, lv_has ls 10 [(7, .int (nI i)), (5, .long x5), (3, .long x3), (0, .ref (ad 0)), (1, .int (nI j)), (2, .int (nI w))] → W p l e ({ frames := 3, cells := 0, slots := 0, locals := 66 }) s m (([.ref (ad 0), .int (nI j), .int (nI w)] : List Value).toArray) below meth c s.heap [] 0 0 (MQ below (vp_Sl (fun r => r = A_odds n fo ki we (nI j) (nI w))) (([.ref (ad 0), .int (nI j), .int (nI w)] : List Value).toArray) s 0 0 (fun _ => False)) (F0 m 57 ls []) := by
                intro fuel
                induction fuel with
                | zero => intro i x5 x3 e_x5 e_x3 hi hmu; exact absurd hmu (Nat.not_lt_zero _)
                | succ fuel ih =>
                  intro i x5 x3 e_x5 e_x3 hi hmu ls hl
                  subst e_x5
                  subst e_x3
                  have hai := and_lt (a := i) hfo
                  refine lv_iload hx hb dX3_odds_57 (lv_at hl 0 rfl) ?_
                  refine lv_aload_n hx hb dX3_odds_59 rfl (lv_at hl 3 rfl) ?_
                  refine xrd (va_runV (As := []) (rest := [.int (nI i)]) hF (c_X3_everyChair l D cI cS ad fa n fo ki st we lo ra rch q0 q1 q2 q3 fk fc rd rc rv sh sle sla bg hd tr (by first | assumption | omega)) (cwV 0 hts gX3_odds_X3_everyChair rfl rfl rfl hV_X3_everyChair ⟨Nat.le_of_ble_eq_true rfl, Nat.le_of_ble_eq_true rfl⟩) (PR.preV hG hP (ci := 3) rfl rfl) rfl rfl hl.1 rfl (lv_room (Nat.le_of_ble_eq_true rfl)) dX3_odds_60 ⟨Nat.le_refl _, Nat.le_refl _⟩) ?_
                  refine lv_icmp_gt (tgt := 168) hx hb dX3_odds_63 (by decide) (fun c_63 => ?_) (fun c_63 => ?_)
                  ·
                    replace c_63 := (nI_ltI (a := 2 ^ n - 1) (b := i) (by omega) (by omega)).mp c_63
                    have hin : i = 2 ^ n := by omega
                    subst hin
                    refine lv_lload_n hx hb dX3_odds_168 rfl (lv_at hl 2 rfl) ?_
                    refine lv_lload hx hb dX3_odds_169 (lv_at hl 1 rfl) ?_
                    refine lv_iload_n hx hb dX3_odds_171 rfl (lv_at hl 5 rfl) ?_
                    refine xrdl (va_runS (As := [.long (lN (cntN (upK n fo ki we j) (2 ^ n))), .long (lN (cntN (lowK fo j) (2 ^ n))), .int (nI w)]) (rest := []) hF (c_X3_share l D cI cS (cntN (upK n fo ki we j) (2 ^ n)) (cntN (lowK fo j) (2 ^ n)) w (by first | (have h9 := cntN_le (upA n fo ki we) (2 ^ n); omega) | (have h9 := cntN_le (upK n fo ki we j) (2 ^ n); omega)) (by first | exact la_pos | exact lk_pos hj c_42) (by first | (have h9 := cntN_le (lowA fo) (2 ^ n); omega) | (have h9 := cntN_le (lowK fo j) (2 ^ n); omega)) (by omega)) (va_cwS 3 hts gX3_odds_X3_share rfl rfl rfl hD_X3_share ⟨Nat.le_of_ble_eq_true rfl, Nat.le_of_ble_eq_true rfl⟩) (PR.pre hG (hP.sub (ws' := []) [] rfl)) rfl rfl hl.1 rfl (lv_room (Nat.le_of_ble_eq_true rfl)) dX3_odds_172 ⟨Nat.le_refl _, Nat.le_refl _⟩) ?_
                    exact xretRl hx hb hr hlk dX3_odds_175 (by rw [odds_k hdn c_27 hclw hj hn c_42])
                  ·
                    replace c_63 := (not_congr (nI_ltI (a := 2 ^ n - 1) (b := i) (by omega) (by omega))).mp c_63
                    refine lv_iload hx hb dX3_odds_66 (lv_at hl 0 rfl) ?_
                    refine lv_aload_n hx hb dX3_odds_68 rfl (lv_at hl 3 rfl) ?_
                    refine va_get (D := D) (ci := 3) (v := .int (nI fo)) (C := RX3) (T := TX3) (N := 23) hx hb yX3 (fun _ h => h) hown hG.1 hP 0 rfl rfl 2 (by decide) f114 (fun _ h => h) rfl dX3_odds_69 ?_
                    refine lv_iand hx hb dX3_odds_72 ?_
                    refine xtop (x' := nI (i &&& fo)) (nI_and _ _) ?_
                    refine lv_if_ne (tgt := 93) hx hb dX3_odds_73 (by decide) (fun c_73 => ?_) (fun c_73 => ?_)
                    ·
                      replace c_73 := (not_congr (nI_eq (a := i &&& fo) (b := 0) (by omega) (by omega))).mp c_73
                      refine lv_iconst (v := nI 0) hx hb dX3_odds_93 (by decide) ?_
                      refine lv_istore (lv' := [(8, .int (nI 0)), (7, .int (nI i)), (5, .long (lN (cntN (lowK fo j) i))), (3, .long (lN (cntN (upK n fo ki we j) i))), (0, .ref (ad 0)), (1, .int (nI j)), (2, .int (nI w))]) hx hb dX3_odds_94 hl (by decide) rfl (fun ls hl => ?_)
                      refine lv_aload_n hx hb dX3_odds_96 rfl (lv_at hl 4 rfl) ?_
                      refine lv_iload hx hb dX3_odds_97 (lv_at hl 1 rfl) ?_
                      refine xrd (va_runV (As := [.int (nI i)]) (rest := []) hF (c_X3_moreBy l D cI cS ad fa n fo ki st we lo ra rch q0 q1 q2 q3 fk fc rd rc rv sh sle sla bg hd tr i (by first | assumption | omega) (by first | assumption | omega) (by first | assumption | omega) (by first | assumption | omega) (by first | omega | exact xor_256 (by omega) (by omega))) (cwV 1 hts gX3_odds_X3_moreBy rfl rfl rfl hV_X3_moreBy ⟨Nat.le_of_ble_eq_true rfl, Nat.le_of_ble_eq_true rfl⟩) (PR.preV hG hP (ci := 3) rfl rfl) rfl rfl hl.1 rfl (lv_room (Nat.le_of_ble_eq_true rfl)) dX3_odds_99 ⟨Nat.le_refl _, Nat.le_refl _⟩) ?_
                      refine lv_if_le (tgt := 126) hx hb dX3_odds_102 (by decide) (fun c_102 => ?_) (fun c_102 => ?_)
                      ·
                        replace c_102 : (zI (mrZ n fo ki we i)).toInt ≤ 0 := (i32_lec (b := 0) (by omega)).mp c_102
                        refine lv_iconst (v := nI 0) hx hb dX3_odds_126 (by decide) ?_
                        refine lv_istore (lv' := [(9, .int (nI 0)), (8, .int (nI 0)), (7, .int (nI i)), (5, .long (lN (cntN (lowK fo j) i))), (3, .long (lN (cntN (upK n fo ki we j) i))), (0, .ref (ad 0)), (1, .int (nI j)), (2, .int (nI w))]) hx hb dX3_odds_127 hl (by decide) rfl (fun ls hl => ?_)
                        refine lv_lload hx hb dX3_odds_129 (lv_at hl 3 rfl) ?_
                        refine lv_iload hx hb dX3_odds_131 (lv_at hl 1 rfl) ?_
                        refine lv_if_eq (tgt := 140) hx hb dX3_odds_133 (by decide) (fun c_133 => ?_) (fun c_133 => ?_)
                        ·
                          refine lv_lconst (v := lN 0) hx hb dX3_odds_140 rfl ?_
                          refine xladdN hx hb dX3_odds_141 ?_
                          refine lv_lstore (lv' := [(5, .long (lN ((cntN (lowK fo j) i) + 0))), (9, .int (nI 0)), (8, .int (nI 0)), (7, .int (nI i)), (3, .long (lN (cntN (upK n fo ki we j) i))), (0, .ref (ad 0)), (1, .int (nI j)), (2, .int (nI w))]) hx hb dX3_odds_142 hl (by decide) rfl (fun ls hl => ?_)
                          refine lv_lload_n hx hb dX3_odds_144 rfl (lv_at hl 4 rfl) ?_
                          refine lv_iload hx hb dX3_odds_145 (lv_at hl 2 rfl) ?_
                          refine lv_if_eq (tgt := 159) hx hb dX3_odds_147 (by decide) (fun c_147 => ?_) (fun c_147 => ?_)
                          ·
                            refine lv_lconst (v := lN 0) hx hb dX3_odds_159 rfl ?_
                            refine xladdN hx hb dX3_odds_160 ?_
                            refine lv_lstore_n (lv' := [(3, .long (lN ((cntN (upK n fo ki we j) i) + 0))), (5, .long (lN ((cntN (lowK fo j) i) + 0))), (9, .int (nI 0)), (8, .int (nI 0)), (7, .int (nI i)), (0, .ref (ad 0)), (1, .int (nI j)), (2, .int (nI w))]) hx hb dX3_odds_161 rfl hl (by decide) rfl (fun ls hl => ?_)
                            refine lv_iinc (v := nI (i + 1)) (lv' := [(7, .int (nI (i + 1))), (3, .long (lN ((cntN (upK n fo ki we j) i) + 0))), (5, .long (lN ((cntN (lowK fo j) i) + 0))), (9, .int (nI 0)), (8, .int (nI 0)), (0, .ref (ad 0)), (1, .int (nI j)), (2, .int (nI w))]) hx hb dX3_odds_162 hl (k := 4) rfl xinc1 (by decide) rfl (fun ls hl => ?_)
                            refine lv_goto (tgt := 57) hx hb dX3_odds_165 (by decide) ?_
                            exact ih (i + 1) (lN ((cntN (lowK fo j) i) + 0)) (lN ((cntN (upK n fo ki we j) i) + 0)) (by rw [cnt_n (lk_n c_73), Nat.add_zero]) (by rw [cnt_n (uk_l (lk_n c_73)), Nat.add_zero]) (by omega) (by omega) ls (lv_sub hl [0, 2, 1, 5, 6, 7] rfl)
                          · exact absurd (by decide) c_147
                        · exact absurd (by decide) c_133
                      ·
                        replace c_102 : ¬ (zI (mrZ n fo ki we i)).toInt ≤ 0 := (not_congr (i32_lec (b := 0) (by omega))).mp c_102
                        refine lv_iload_n hx hb dX3_odds_105 rfl (lv_at hl 5 rfl) ?_
                        refine lv_if_lt (tgt := 122) hx hb dX3_odds_106 (by decide) (fun c_106 => ?_) (fun c_106 => ?_)
                        · exact absurd c_106 (nI_nn (by omega))
                        ·
                          refine lv_aload_n hx hb dX3_odds_109 rfl (lv_at hl 4 rfl) ?_
                          refine lv_iload hx hb dX3_odds_110 (lv_at hl 1 rfl) ?_
                          refine lv_iconst (v := nI 1) hx hb dX3_odds_112 (by decide) ?_
                          refine lv_iload_n hx hb dX3_odds_113 rfl (lv_at hl 5 rfl) ?_
                          refine lv_ishl hx hb dX3_odds_114 ?_
                          refine xtop (x' := nI (2 ^ j)) (by exact shl1 j (by omega)) ?_
                          refine lv_ixor hx hb dX3_odds_115 ?_
                          refine xtop (x' := nI (i ^^^ (2 ^ j))) (nI_xor _ _) ?_
                          refine xrd (va_runV (As := [.int (nI (i ^^^ (2 ^ j)))]) (rest := []) hF (c_X3_moreBy l D cI cS ad fa n fo ki st we lo ra rch q0 q1 q2 q3 fk fc rd rc rv sh sle sla bg hd tr (i ^^^ (2 ^ j)) (by first | assumption | omega) (by first | assumption | omega) (by first | assumption | omega) (by first | assumption | omega) (by first | omega | exact xor_256 (by omega) (by omega))) (cwV 1 hts gX3_odds_X3_moreBy rfl rfl rfl hV_X3_moreBy ⟨Nat.le_of_ble_eq_true rfl, Nat.le_of_ble_eq_true rfl⟩) (PR.preV hG hP (ci := 3) rfl rfl) rfl rfl hl.1 rfl (lv_room (Nat.le_of_ble_eq_true rfl)) dX3_odds_116 ⟨Nat.le_refl _, Nat.le_refl _⟩) ?_
                          refine lv_if_gt (tgt := 126) hx hb dX3_odds_119 (by decide) (fun c_119 => ?_) (fun c_119 => ?_)
                          ·
                            replace c_119 : 0 < (zI (mrZ n fo ki we (i ^^^ (2 ^ j)))).toInt := (i32_gtc (b := 0) (by omega)).mp c_119
                            refine lv_iconst (v := nI 0) hx hb dX3_odds_126 (by decide) ?_
                            refine lv_istore (lv' := [(9, .int (nI 0)), (8, .int (nI 0)), (7, .int (nI i)), (5, .long (lN (cntN (lowK fo j) i))), (3, .long (lN (cntN (upK n fo ki we j) i))), (0, .ref (ad 0)), (1, .int (nI j)), (2, .int (nI w))]) hx hb dX3_odds_127 hl (by decide) rfl (fun ls hl => ?_)
                            refine lv_lload hx hb dX3_odds_129 (lv_at hl 3 rfl) ?_
                            refine lv_iload hx hb dX3_odds_131 (lv_at hl 1 rfl) ?_
                            refine lv_if_eq (tgt := 140) hx hb dX3_odds_133 (by decide) (fun c_133 => ?_) (fun c_133 => ?_)
                            ·
                              refine lv_lconst (v := lN 0) hx hb dX3_odds_140 rfl ?_
                              refine xladdN hx hb dX3_odds_141 ?_
                              refine lv_lstore (lv' := [(5, .long (lN ((cntN (lowK fo j) i) + 0))), (9, .int (nI 0)), (8, .int (nI 0)), (7, .int (nI i)), (3, .long (lN (cntN (upK n fo ki we j) i))), (0, .ref (ad 0)), (1, .int (nI j)), (2, .int (nI w))]) hx hb dX3_odds_142 hl (by decide) rfl (fun ls hl => ?_)
                              refine lv_lload_n hx hb dX3_odds_144 rfl (lv_at hl 4 rfl) ?_
                              refine lv_iload hx hb dX3_odds_145 (lv_at hl 2 rfl) ?_
                              refine lv_if_eq (tgt := 159) hx hb dX3_odds_147 (by decide) (fun c_147 => ?_) (fun c_147 => ?_)
                              ·
                                refine lv_lconst (v := lN 0) hx hb dX3_odds_159 rfl ?_
                                refine xladdN hx hb dX3_odds_160 ?_
                                refine lv_lstore_n (lv' := [(3, .long (lN ((cntN (upK n fo ki we j) i) + 0))), (5, .long (lN ((cntN (lowK fo j) i) + 0))), (9, .int (nI 0)), (8, .int (nI 0)), (7, .int (nI i)), (0, .ref (ad 0)), (1, .int (nI j)), (2, .int (nI w))]) hx hb dX3_odds_161 rfl hl (by decide) rfl (fun ls hl => ?_)
                                refine lv_iinc (v := nI (i + 1)) (lv' := [(7, .int (nI (i + 1))), (3, .long (lN ((cntN (upK n fo ki we j) i) + 0))), (5, .long (lN ((cntN (lowK fo j) i) + 0))), (9, .int (nI 0)), (8, .int (nI 0)), (0, .ref (ad 0)), (1, .int (nI j)), (2, .int (nI w))]) hx hb dX3_odds_162 hl (k := 4) rfl xinc1 (by decide) rfl (fun ls hl => ?_)
                                refine lv_goto (tgt := 57) hx hb dX3_odds_165 (by decide) ?_
                                exact ih (i + 1) (lN ((cntN (lowK fo j) i) + 0)) (lN ((cntN (upK n fo ki we j) i) + 0)) (by rw [cnt_n (lk_n c_73), Nat.add_zero]) (by rw [cnt_n (uk_l (lk_n c_73)), Nat.add_zero]) (by omega) (by omega) ls (lv_sub hl [0, 2, 1, 5, 6, 7] rfl)
                              · exact absurd (by decide) c_147
                            · exact absurd (by decide) c_133
                          ·
                            replace c_119 : ¬ 0 < (zI (mrZ n fo ki we (i ^^^ (2 ^ j)))).toInt := (not_congr (i32_gtc (b := 0) (by omega))).mp c_119
                            refine lv_iconst (v := nI 1) hx hb dX3_odds_122 (by decide) ?_
                            refine lv_goto (tgt := 127) hx hb dX3_odds_123 (by decide) ?_
                            refine lv_istore (lv' := [(9, .int (nI 1)), (8, .int (nI 0)), (7, .int (nI i)), (5, .long (lN (cntN (lowK fo j) i))), (3, .long (lN (cntN (upK n fo ki we j) i))), (0, .ref (ad 0)), (1, .int (nI j)), (2, .int (nI w))]) hx hb dX3_odds_127 hl (by decide) rfl (fun ls hl => ?_)
                            refine lv_lload hx hb dX3_odds_129 (lv_at hl 3 rfl) ?_
                            refine lv_iload hx hb dX3_odds_131 (lv_at hl 1 rfl) ?_
                            refine lv_if_eq (tgt := 140) hx hb dX3_odds_133 (by decide) (fun c_133 => ?_) (fun c_133 => ?_)
                            ·
                              refine lv_lconst (v := lN 0) hx hb dX3_odds_140 rfl ?_
                              refine xladdN hx hb dX3_odds_141 ?_
                              refine lv_lstore (lv' := [(5, .long (lN ((cntN (lowK fo j) i) + 0))), (9, .int (nI 1)), (8, .int (nI 0)), (7, .int (nI i)), (3, .long (lN (cntN (upK n fo ki we j) i))), (0, .ref (ad 0)), (1, .int (nI j)), (2, .int (nI w))]) hx hb dX3_odds_142 hl (by decide) rfl (fun ls hl => ?_)
                              refine lv_lload_n hx hb dX3_odds_144 rfl (lv_at hl 4 rfl) ?_
                              refine lv_iload hx hb dX3_odds_145 (lv_at hl 2 rfl) ?_
                              refine lv_if_eq (tgt := 159) hx hb dX3_odds_147 (by decide) (fun c_147 => ?_) (fun c_147 => ?_)
                              ·
                                refine lv_lconst (v := lN 0) hx hb dX3_odds_159 rfl ?_
                                refine xladdN hx hb dX3_odds_160 ?_
                                refine lv_lstore_n (lv' := [(3, .long (lN ((cntN (upK n fo ki we j) i) + 0))), (5, .long (lN ((cntN (lowK fo j) i) + 0))), (9, .int (nI 1)), (8, .int (nI 0)), (7, .int (nI i)), (0, .ref (ad 0)), (1, .int (nI j)), (2, .int (nI w))]) hx hb dX3_odds_161 rfl hl (by decide) rfl (fun ls hl => ?_)
                                refine lv_iinc (v := nI (i + 1)) (lv' := [(7, .int (nI (i + 1))), (3, .long (lN ((cntN (upK n fo ki we j) i) + 0))), (5, .long (lN ((cntN (lowK fo j) i) + 0))), (9, .int (nI 1)), (8, .int (nI 0)), (0, .ref (ad 0)), (1, .int (nI j)), (2, .int (nI w))]) hx hb dX3_odds_162 hl (k := 4) rfl xinc1 (by decide) rfl (fun ls hl => ?_)
                                refine lv_goto (tgt := 57) hx hb dX3_odds_165 (by decide) ?_
                                exact ih (i + 1) (lN ((cntN (lowK fo j) i) + 0)) (lN ((cntN (upK n fo ki we j) i) + 0)) (by rw [cnt_n (lk_n c_73), Nat.add_zero]) (by rw [cnt_n (uk_l (lk_n c_73)), Nat.add_zero]) (by omega) (by omega) ls (lv_sub hl [0, 2, 1, 5, 6, 7] rfl)
                              · exact absurd (by decide) c_147
                            · exact absurd (by decide) c_133
                    ·
                      replace c_73 := (nI_eq (a := i &&& fo) (b := 0) (by omega) (by omega)).mp c_73
                      refine lv_iload_n hx hb dX3_odds_76 rfl (lv_at hl 4 rfl) ?_
                      refine lv_if_lt (tgt := 89) hx hb dX3_odds_77 (by decide) (fun c_77 => ?_) (fun c_77 => ?_)
                      · exact absurd c_77 (nI_nn (by omega))
                      ·
                        refine lv_iload hx hb dX3_odds_80 (lv_at hl 0 rfl) ?_
                        refine lv_iload_n hx hb dX3_odds_82 rfl (lv_at hl 4 rfl) ?_
                        refine xrd (va_runS (As := [.int (nI i), .int (nI j)]) (rest := []) hF (c_X3_isIn l D cI cS i j (by first | assumption | omega) (by first | assumption | omega)) (va_cwS 2 hts gX3_odds_X3_isIn rfl rfl rfl hD_X3_isIn ⟨Nat.le_of_ble_eq_true rfl, Nat.le_of_ble_eq_true rfl⟩) (PR.pre hG (hP.sub (ws' := []) [] rfl)) rfl rfl hl.1 rfl (lv_room (Nat.le_of_ble_eq_true rfl)) dX3_odds_83 ⟨Nat.le_refl _, Nat.le_refl _⟩) ?_
                        refine lv_if_eq (tgt := 93) hx hb dX3_odds_86 (by decide) (fun c_86 => ?_) (fun c_86 => ?_)
                        ·
                          replace c_86 := bI_0.mp c_86
                          refine lv_iconst (v := nI 0) hx hb dX3_odds_93 (by decide) ?_
                          refine lv_istore (lv' := [(8, .int (nI 0)), (7, .int (nI i)), (5, .long (lN (cntN (lowK fo j) i))), (3, .long (lN (cntN (upK n fo ki we j) i))), (0, .ref (ad 0)), (1, .int (nI j)), (2, .int (nI w))]) hx hb dX3_odds_94 hl (by decide) rfl (fun ls hl => ?_)
                          refine lv_aload_n hx hb dX3_odds_96 rfl (lv_at hl 4 rfl) ?_
                          refine lv_iload hx hb dX3_odds_97 (lv_at hl 1 rfl) ?_
                          refine xrd (va_runV (As := [.int (nI i)]) (rest := []) hF (c_X3_moreBy l D cI cS ad fa n fo ki st we lo ra rch q0 q1 q2 q3 fk fc rd rc rv sh sle sla bg hd tr i (by first | assumption | omega) (by first | assumption | omega) (by first | assumption | omega) (by first | assumption | omega) (by first | omega | exact xor_256 (by omega) (by omega))) (cwV 1 hts gX3_odds_X3_moreBy rfl rfl rfl hV_X3_moreBy ⟨Nat.le_of_ble_eq_true rfl, Nat.le_of_ble_eq_true rfl⟩) (PR.preV hG hP (ci := 3) rfl rfl) rfl rfl hl.1 rfl (lv_room (Nat.le_of_ble_eq_true rfl)) dX3_odds_99 ⟨Nat.le_refl _, Nat.le_refl _⟩) ?_
                          refine lv_if_le (tgt := 126) hx hb dX3_odds_102 (by decide) (fun c_102 => ?_) (fun c_102 => ?_)
                          ·
                            replace c_102 : (zI (mrZ n fo ki we i)).toInt ≤ 0 := (i32_lec (b := 0) (by omega)).mp c_102
                            refine lv_iconst (v := nI 0) hx hb dX3_odds_126 (by decide) ?_
                            refine lv_istore (lv' := [(9, .int (nI 0)), (8, .int (nI 0)), (7, .int (nI i)), (5, .long (lN (cntN (lowK fo j) i))), (3, .long (lN (cntN (upK n fo ki we j) i))), (0, .ref (ad 0)), (1, .int (nI j)), (2, .int (nI w))]) hx hb dX3_odds_127 hl (by decide) rfl (fun ls hl => ?_)
                            refine lv_lload hx hb dX3_odds_129 (lv_at hl 3 rfl) ?_
                            refine lv_iload hx hb dX3_odds_131 (lv_at hl 1 rfl) ?_
                            refine lv_if_eq (tgt := 140) hx hb dX3_odds_133 (by decide) (fun c_133 => ?_) (fun c_133 => ?_)
                            ·
                              refine lv_lconst (v := lN 0) hx hb dX3_odds_140 rfl ?_
                              refine xladdN hx hb dX3_odds_141 ?_
                              refine lv_lstore (lv' := [(5, .long (lN ((cntN (lowK fo j) i) + 0))), (9, .int (nI 0)), (8, .int (nI 0)), (7, .int (nI i)), (3, .long (lN (cntN (upK n fo ki we j) i))), (0, .ref (ad 0)), (1, .int (nI j)), (2, .int (nI w))]) hx hb dX3_odds_142 hl (by decide) rfl (fun ls hl => ?_)
                              refine lv_lload_n hx hb dX3_odds_144 rfl (lv_at hl 4 rfl) ?_
                              refine lv_iload hx hb dX3_odds_145 (lv_at hl 2 rfl) ?_
                              refine lv_if_eq (tgt := 159) hx hb dX3_odds_147 (by decide) (fun c_147 => ?_) (fun c_147 => ?_)
                              ·
                                refine lv_lconst (v := lN 0) hx hb dX3_odds_159 rfl ?_
                                refine xladdN hx hb dX3_odds_160 ?_
                                refine lv_lstore_n (lv' := [(3, .long (lN ((cntN (upK n fo ki we j) i) + 0))), (5, .long (lN ((cntN (lowK fo j) i) + 0))), (9, .int (nI 0)), (8, .int (nI 0)), (7, .int (nI i)), (0, .ref (ad 0)), (1, .int (nI j)), (2, .int (nI w))]) hx hb dX3_odds_161 rfl hl (by decide) rfl (fun ls hl => ?_)
                                refine lv_iinc (v := nI (i + 1)) (lv' := [(7, .int (nI (i + 1))), (3, .long (lN ((cntN (upK n fo ki we j) i) + 0))), (5, .long (lN ((cntN (lowK fo j) i) + 0))), (9, .int (nI 0)), (8, .int (nI 0)), (0, .ref (ad 0)), (1, .int (nI j)), (2, .int (nI w))]) hx hb dX3_odds_162 hl (k := 4) rfl xinc1 (by decide) rfl (fun ls hl => ?_)
                                refine lv_goto (tgt := 57) hx hb dX3_odds_165 (by decide) ?_
                                exact ih (i + 1) (lN ((cntN (lowK fo j) i) + 0)) (lN ((cntN (upK n fo ki we j) i) + 0)) (by rw [cnt_n (lk_b c_86), Nat.add_zero]) (by rw [cnt_n (uk_l (lk_b c_86)), Nat.add_zero]) (by omega) (by omega) ls (lv_sub hl [0, 2, 1, 5, 6, 7] rfl)
                              · exact absurd (by decide) c_147
                            · exact absurd (by decide) c_133
                          ·
                            replace c_102 : ¬ (zI (mrZ n fo ki we i)).toInt ≤ 0 := (not_congr (i32_lec (b := 0) (by omega))).mp c_102
                            refine lv_iload_n hx hb dX3_odds_105 rfl (lv_at hl 5 rfl) ?_
                            refine lv_if_lt (tgt := 122) hx hb dX3_odds_106 (by decide) (fun c_106 => ?_) (fun c_106 => ?_)
                            · exact absurd c_106 (nI_nn (by omega))
                            ·
                              refine lv_aload_n hx hb dX3_odds_109 rfl (lv_at hl 4 rfl) ?_
                              refine lv_iload hx hb dX3_odds_110 (lv_at hl 1 rfl) ?_
                              refine lv_iconst (v := nI 1) hx hb dX3_odds_112 (by decide) ?_
                              refine lv_iload_n hx hb dX3_odds_113 rfl (lv_at hl 5 rfl) ?_
                              refine lv_ishl hx hb dX3_odds_114 ?_
                              refine xtop (x' := nI (2 ^ j)) (by exact shl1 j (by omega)) ?_
                              refine lv_ixor hx hb dX3_odds_115 ?_
                              refine xtop (x' := nI (i ^^^ (2 ^ j))) (nI_xor _ _) ?_
                              refine xrd (va_runV (As := [.int (nI (i ^^^ (2 ^ j)))]) (rest := []) hF (c_X3_moreBy l D cI cS ad fa n fo ki st we lo ra rch q0 q1 q2 q3 fk fc rd rc rv sh sle sla bg hd tr (i ^^^ (2 ^ j)) (by first | assumption | omega) (by first | assumption | omega) (by first | assumption | omega) (by first | assumption | omega) (by first | omega | exact xor_256 (by omega) (by omega))) (cwV 1 hts gX3_odds_X3_moreBy rfl rfl rfl hV_X3_moreBy ⟨Nat.le_of_ble_eq_true rfl, Nat.le_of_ble_eq_true rfl⟩) (PR.preV hG hP (ci := 3) rfl rfl) rfl rfl hl.1 rfl (lv_room (Nat.le_of_ble_eq_true rfl)) dX3_odds_116 ⟨Nat.le_refl _, Nat.le_refl _⟩) ?_
                              refine lv_if_gt (tgt := 126) hx hb dX3_odds_119 (by decide) (fun c_119 => ?_) (fun c_119 => ?_)
                              ·
                                replace c_119 : 0 < (zI (mrZ n fo ki we (i ^^^ (2 ^ j)))).toInt := (i32_gtc (b := 0) (by omega)).mp c_119
                                refine lv_iconst (v := nI 0) hx hb dX3_odds_126 (by decide) ?_
                                refine lv_istore (lv' := [(9, .int (nI 0)), (8, .int (nI 0)), (7, .int (nI i)), (5, .long (lN (cntN (lowK fo j) i))), (3, .long (lN (cntN (upK n fo ki we j) i))), (0, .ref (ad 0)), (1, .int (nI j)), (2, .int (nI w))]) hx hb dX3_odds_127 hl (by decide) rfl (fun ls hl => ?_)
                                refine lv_lload hx hb dX3_odds_129 (lv_at hl 3 rfl) ?_
                                refine lv_iload hx hb dX3_odds_131 (lv_at hl 1 rfl) ?_
                                refine lv_if_eq (tgt := 140) hx hb dX3_odds_133 (by decide) (fun c_133 => ?_) (fun c_133 => ?_)
                                ·
                                  refine lv_lconst (v := lN 0) hx hb dX3_odds_140 rfl ?_
                                  refine xladdN hx hb dX3_odds_141 ?_
                                  refine lv_lstore (lv' := [(5, .long (lN ((cntN (lowK fo j) i) + 0))), (9, .int (nI 0)), (8, .int (nI 0)), (7, .int (nI i)), (3, .long (lN (cntN (upK n fo ki we j) i))), (0, .ref (ad 0)), (1, .int (nI j)), (2, .int (nI w))]) hx hb dX3_odds_142 hl (by decide) rfl (fun ls hl => ?_)
                                  refine lv_lload_n hx hb dX3_odds_144 rfl (lv_at hl 4 rfl) ?_
                                  refine lv_iload hx hb dX3_odds_145 (lv_at hl 2 rfl) ?_
                                  refine lv_if_eq (tgt := 159) hx hb dX3_odds_147 (by decide) (fun c_147 => ?_) (fun c_147 => ?_)
                                  ·
                                    refine lv_lconst (v := lN 0) hx hb dX3_odds_159 rfl ?_
                                    refine xladdN hx hb dX3_odds_160 ?_
                                    refine lv_lstore_n (lv' := [(3, .long (lN ((cntN (upK n fo ki we j) i) + 0))), (5, .long (lN ((cntN (lowK fo j) i) + 0))), (9, .int (nI 0)), (8, .int (nI 0)), (7, .int (nI i)), (0, .ref (ad 0)), (1, .int (nI j)), (2, .int (nI w))]) hx hb dX3_odds_161 rfl hl (by decide) rfl (fun ls hl => ?_)
                                    refine lv_iinc (v := nI (i + 1)) (lv' := [(7, .int (nI (i + 1))), (3, .long (lN ((cntN (upK n fo ki we j) i) + 0))), (5, .long (lN ((cntN (lowK fo j) i) + 0))), (9, .int (nI 0)), (8, .int (nI 0)), (0, .ref (ad 0)), (1, .int (nI j)), (2, .int (nI w))]) hx hb dX3_odds_162 hl (k := 4) rfl xinc1 (by decide) rfl (fun ls hl => ?_)
                                    refine lv_goto (tgt := 57) hx hb dX3_odds_165 (by decide) ?_
                                    exact ih (i + 1) (lN ((cntN (lowK fo j) i) + 0)) (lN ((cntN (upK n fo ki we j) i) + 0)) (by rw [cnt_n (lk_b c_86), Nat.add_zero]) (by rw [cnt_n (uk_l (lk_b c_86)), Nat.add_zero]) (by omega) (by omega) ls (lv_sub hl [0, 2, 1, 5, 6, 7] rfl)
                                  · exact absurd (by decide) c_147
                                · exact absurd (by decide) c_133
                              ·
                                replace c_119 : ¬ 0 < (zI (mrZ n fo ki we (i ^^^ (2 ^ j)))).toInt := (not_congr (i32_gtc (b := 0) (by omega))).mp c_119
                                refine lv_iconst (v := nI 1) hx hb dX3_odds_122 (by decide) ?_
                                refine lv_goto (tgt := 127) hx hb dX3_odds_123 (by decide) ?_
                                refine lv_istore (lv' := [(9, .int (nI 1)), (8, .int (nI 0)), (7, .int (nI i)), (5, .long (lN (cntN (lowK fo j) i))), (3, .long (lN (cntN (upK n fo ki we j) i))), (0, .ref (ad 0)), (1, .int (nI j)), (2, .int (nI w))]) hx hb dX3_odds_127 hl (by decide) rfl (fun ls hl => ?_)
                                refine lv_lload hx hb dX3_odds_129 (lv_at hl 3 rfl) ?_
                                refine lv_iload hx hb dX3_odds_131 (lv_at hl 1 rfl) ?_
                                refine lv_if_eq (tgt := 140) hx hb dX3_odds_133 (by decide) (fun c_133 => ?_) (fun c_133 => ?_)
                                ·
                                  refine lv_lconst (v := lN 0) hx hb dX3_odds_140 rfl ?_
                                  refine xladdN hx hb dX3_odds_141 ?_
                                  refine lv_lstore (lv' := [(5, .long (lN ((cntN (lowK fo j) i) + 0))), (9, .int (nI 1)), (8, .int (nI 0)), (7, .int (nI i)), (3, .long (lN (cntN (upK n fo ki we j) i))), (0, .ref (ad 0)), (1, .int (nI j)), (2, .int (nI w))]) hx hb dX3_odds_142 hl (by decide) rfl (fun ls hl => ?_)
                                  refine lv_lload_n hx hb dX3_odds_144 rfl (lv_at hl 4 rfl) ?_
                                  refine lv_iload hx hb dX3_odds_145 (lv_at hl 2 rfl) ?_
                                  refine lv_if_eq (tgt := 159) hx hb dX3_odds_147 (by decide) (fun c_147 => ?_) (fun c_147 => ?_)
                                  ·
                                    refine lv_lconst (v := lN 0) hx hb dX3_odds_159 rfl ?_
                                    refine xladdN hx hb dX3_odds_160 ?_
                                    refine lv_lstore_n (lv' := [(3, .long (lN ((cntN (upK n fo ki we j) i) + 0))), (5, .long (lN ((cntN (lowK fo j) i) + 0))), (9, .int (nI 1)), (8, .int (nI 0)), (7, .int (nI i)), (0, .ref (ad 0)), (1, .int (nI j)), (2, .int (nI w))]) hx hb dX3_odds_161 rfl hl (by decide) rfl (fun ls hl => ?_)
                                    refine lv_iinc (v := nI (i + 1)) (lv' := [(7, .int (nI (i + 1))), (3, .long (lN ((cntN (upK n fo ki we j) i) + 0))), (5, .long (lN ((cntN (lowK fo j) i) + 0))), (9, .int (nI 1)), (8, .int (nI 0)), (0, .ref (ad 0)), (1, .int (nI j)), (2, .int (nI w))]) hx hb dX3_odds_162 hl (k := 4) rfl xinc1 (by decide) rfl (fun ls hl => ?_)
                                    refine lv_goto (tgt := 57) hx hb dX3_odds_165 (by decide) ?_
                                    exact ih (i + 1) (lN ((cntN (lowK fo j) i) + 0)) (lN ((cntN (upK n fo ki we j) i) + 0)) (by rw [cnt_n (lk_b c_86), Nat.add_zero]) (by rw [cnt_n (uk_l (lk_b c_86)), Nat.add_zero]) (by omega) (by omega) ls (lv_sub hl [0, 2, 1, 5, 6, 7] rfl)
                                  · exact absurd (by decide) c_147
                                · exact absurd (by decide) c_133
                        ·
                          replace c_86 := bI_n0.mp c_86
                          refine lv_iconst (v := nI 1) hx hb dX3_odds_89 (by decide) ?_
                          refine lv_goto (tgt := 94) hx hb dX3_odds_90 (by decide) ?_
                          refine lv_istore (lv' := [(8, .int (nI 1)), (7, .int (nI i)), (5, .long (lN (cntN (lowK fo j) i))), (3, .long (lN (cntN (upK n fo ki we j) i))), (0, .ref (ad 0)), (1, .int (nI j)), (2, .int (nI w))]) hx hb dX3_odds_94 hl (by decide) rfl (fun ls hl => ?_)
                          refine lv_aload_n hx hb dX3_odds_96 rfl (lv_at hl 4 rfl) ?_
                          refine lv_iload hx hb dX3_odds_97 (lv_at hl 1 rfl) ?_
                          refine xrd (va_runV (As := [.int (nI i)]) (rest := []) hF (c_X3_moreBy l D cI cS ad fa n fo ki st we lo ra rch q0 q1 q2 q3 fk fc rd rc rv sh sle sla bg hd tr i (by first | assumption | omega) (by first | assumption | omega) (by first | assumption | omega) (by first | assumption | omega) (by first | omega | exact xor_256 (by omega) (by omega))) (cwV 1 hts gX3_odds_X3_moreBy rfl rfl rfl hV_X3_moreBy ⟨Nat.le_of_ble_eq_true rfl, Nat.le_of_ble_eq_true rfl⟩) (PR.preV hG hP (ci := 3) rfl rfl) rfl rfl hl.1 rfl (lv_room (Nat.le_of_ble_eq_true rfl)) dX3_odds_99 ⟨Nat.le_refl _, Nat.le_refl _⟩) ?_
                          refine lv_if_le (tgt := 126) hx hb dX3_odds_102 (by decide) (fun c_102 => ?_) (fun c_102 => ?_)
                          ·
                            replace c_102 : (zI (mrZ n fo ki we i)).toInt ≤ 0 := (i32_lec (b := 0) (by omega)).mp c_102
                            refine lv_iconst (v := nI 0) hx hb dX3_odds_126 (by decide) ?_
                            refine lv_istore (lv' := [(9, .int (nI 0)), (8, .int (nI 1)), (7, .int (nI i)), (5, .long (lN (cntN (lowK fo j) i))), (3, .long (lN (cntN (upK n fo ki we j) i))), (0, .ref (ad 0)), (1, .int (nI j)), (2, .int (nI w))]) hx hb dX3_odds_127 hl (by decide) rfl (fun ls hl => ?_)
                            refine lv_lload hx hb dX3_odds_129 (lv_at hl 3 rfl) ?_
                            refine lv_iload hx hb dX3_odds_131 (lv_at hl 1 rfl) ?_
                            refine lv_if_eq (tgt := 140) hx hb dX3_odds_133 (by decide) (fun c_133 => ?_) (fun c_133 => ?_)
                            · exact absurd c_133 (by decide)
                            ·
                              refine lv_lconst (v := lN 1) hx hb dX3_odds_136 rfl ?_
                              refine lv_goto (tgt := 141) hx hb dX3_odds_137 (by decide) ?_
                              refine xladdN hx hb dX3_odds_141 ?_
                              refine lv_lstore (lv' := [(5, .long (lN ((cntN (lowK fo j) i) + 1))), (9, .int (nI 0)), (8, .int (nI 1)), (7, .int (nI i)), (3, .long (lN (cntN (upK n fo ki we j) i))), (0, .ref (ad 0)), (1, .int (nI j)), (2, .int (nI w))]) hx hb dX3_odds_142 hl (by decide) rfl (fun ls hl => ?_)
                              refine lv_lload_n hx hb dX3_odds_144 rfl (lv_at hl 4 rfl) ?_
                              refine lv_iload hx hb dX3_odds_145 (lv_at hl 2 rfl) ?_
                              refine lv_if_eq (tgt := 159) hx hb dX3_odds_147 (by decide) (fun c_147 => ?_) (fun c_147 => ?_)
                              · exact absurd c_147 (by decide)
                              ·
                                refine lv_iload hx hb dX3_odds_150 (lv_at hl 1 rfl) ?_
                                refine lv_if_eq (tgt := 159) hx hb dX3_odds_152 (by decide) (fun c_152 => ?_) (fun c_152 => ?_)
                                ·
                                  refine lv_lconst (v := lN 0) hx hb dX3_odds_159 rfl ?_
                                  refine xladdN hx hb dX3_odds_160 ?_
                                  refine lv_lstore_n (lv' := [(3, .long (lN ((cntN (upK n fo ki we j) i) + 0))), (5, .long (lN ((cntN (lowK fo j) i) + 1))), (9, .int (nI 0)), (8, .int (nI 1)), (7, .int (nI i)), (0, .ref (ad 0)), (1, .int (nI j)), (2, .int (nI w))]) hx hb dX3_odds_161 rfl hl (by decide) rfl (fun ls hl => ?_)
                                  refine lv_iinc (v := nI (i + 1)) (lv' := [(7, .int (nI (i + 1))), (3, .long (lN ((cntN (upK n fo ki we j) i) + 0))), (5, .long (lN ((cntN (lowK fo j) i) + 1))), (9, .int (nI 0)), (8, .int (nI 1)), (0, .ref (ad 0)), (1, .int (nI j)), (2, .int (nI w))]) hx hb dX3_odds_162 hl (k := 4) rfl xinc1 (by decide) rfl (fun ls hl => ?_)
                                  refine lv_goto (tgt := 57) hx hb dX3_odds_165 (by decide) ?_
                                  exact ih (i + 1) (lN ((cntN (lowK fo j) i) + 1)) (lN ((cntN (upK n fo ki we j) i) + 0)) (by rw [cnt_y (lk_y c_73 c_86)]) (by rw [cnt_n (uk_m (mz_le hwe hn c_102)), Nat.add_zero]) (by omega) (by omega) ls (lv_sub hl [0, 2, 1, 5, 6, 7] rfl)
                                · exact absurd (by decide) c_152
                          ·
                            replace c_102 : ¬ (zI (mrZ n fo ki we i)).toInt ≤ 0 := (not_congr (i32_lec (b := 0) (by omega))).mp c_102
                            refine lv_iload_n hx hb dX3_odds_105 rfl (lv_at hl 5 rfl) ?_
                            refine lv_if_lt (tgt := 122) hx hb dX3_odds_106 (by decide) (fun c_106 => ?_) (fun c_106 => ?_)
                            · exact absurd c_106 (nI_nn (by omega))
                            ·
                              refine lv_aload_n hx hb dX3_odds_109 rfl (lv_at hl 4 rfl) ?_
                              refine lv_iload hx hb dX3_odds_110 (lv_at hl 1 rfl) ?_
                              refine lv_iconst (v := nI 1) hx hb dX3_odds_112 (by decide) ?_
                              refine lv_iload_n hx hb dX3_odds_113 rfl (lv_at hl 5 rfl) ?_
                              refine lv_ishl hx hb dX3_odds_114 ?_
                              refine xtop (x' := nI (2 ^ j)) (by exact shl1 j (by omega)) ?_
                              refine lv_ixor hx hb dX3_odds_115 ?_
                              refine xtop (x' := nI (i ^^^ (2 ^ j))) (nI_xor _ _) ?_
                              refine xrd (va_runV (As := [.int (nI (i ^^^ (2 ^ j)))]) (rest := []) hF (c_X3_moreBy l D cI cS ad fa n fo ki st we lo ra rch q0 q1 q2 q3 fk fc rd rc rv sh sle sla bg hd tr (i ^^^ (2 ^ j)) (by first | assumption | omega) (by first | assumption | omega) (by first | assumption | omega) (by first | assumption | omega) (by first | omega | exact xor_256 (by omega) (by omega))) (cwV 1 hts gX3_odds_X3_moreBy rfl rfl rfl hV_X3_moreBy ⟨Nat.le_of_ble_eq_true rfl, Nat.le_of_ble_eq_true rfl⟩) (PR.preV hG hP (ci := 3) rfl rfl) rfl rfl hl.1 rfl (lv_room (Nat.le_of_ble_eq_true rfl)) dX3_odds_116 ⟨Nat.le_refl _, Nat.le_refl _⟩) ?_
                              refine lv_if_gt (tgt := 126) hx hb dX3_odds_119 (by decide) (fun c_119 => ?_) (fun c_119 => ?_)
                              ·
                                replace c_119 : 0 < (zI (mrZ n fo ki we (i ^^^ (2 ^ j)))).toInt := (i32_gtc (b := 0) (by omega)).mp c_119
                                refine lv_iconst (v := nI 0) hx hb dX3_odds_126 (by decide) ?_
                                refine lv_istore (lv' := [(9, .int (nI 0)), (8, .int (nI 1)), (7, .int (nI i)), (5, .long (lN (cntN (lowK fo j) i))), (3, .long (lN (cntN (upK n fo ki we j) i))), (0, .ref (ad 0)), (1, .int (nI j)), (2, .int (nI w))]) hx hb dX3_odds_127 hl (by decide) rfl (fun ls hl => ?_)
                                refine lv_lload hx hb dX3_odds_129 (lv_at hl 3 rfl) ?_
                                refine lv_iload hx hb dX3_odds_131 (lv_at hl 1 rfl) ?_
                                refine lv_if_eq (tgt := 140) hx hb dX3_odds_133 (by decide) (fun c_133 => ?_) (fun c_133 => ?_)
                                · exact absurd c_133 (by decide)
                                ·
                                  refine lv_lconst (v := lN 1) hx hb dX3_odds_136 rfl ?_
                                  refine lv_goto (tgt := 141) hx hb dX3_odds_137 (by decide) ?_
                                  refine xladdN hx hb dX3_odds_141 ?_
                                  refine lv_lstore (lv' := [(5, .long (lN ((cntN (lowK fo j) i) + 1))), (9, .int (nI 0)), (8, .int (nI 1)), (7, .int (nI i)), (3, .long (lN (cntN (upK n fo ki we j) i))), (0, .ref (ad 0)), (1, .int (nI j)), (2, .int (nI w))]) hx hb dX3_odds_142 hl (by decide) rfl (fun ls hl => ?_)
                                  refine lv_lload_n hx hb dX3_odds_144 rfl (lv_at hl 4 rfl) ?_
                                  refine lv_iload hx hb dX3_odds_145 (lv_at hl 2 rfl) ?_
                                  refine lv_if_eq (tgt := 159) hx hb dX3_odds_147 (by decide) (fun c_147 => ?_) (fun c_147 => ?_)
                                  · exact absurd c_147 (by decide)
                                  ·
                                    refine lv_iload hx hb dX3_odds_150 (lv_at hl 1 rfl) ?_
                                    refine lv_if_eq (tgt := 159) hx hb dX3_odds_152 (by decide) (fun c_152 => ?_) (fun c_152 => ?_)
                                    ·
                                      refine lv_lconst (v := lN 0) hx hb dX3_odds_159 rfl ?_
                                      refine xladdN hx hb dX3_odds_160 ?_
                                      refine lv_lstore_n (lv' := [(3, .long (lN ((cntN (upK n fo ki we j) i) + 0))), (5, .long (lN ((cntN (lowK fo j) i) + 1))), (9, .int (nI 0)), (8, .int (nI 1)), (7, .int (nI i)), (0, .ref (ad 0)), (1, .int (nI j)), (2, .int (nI w))]) hx hb dX3_odds_161 rfl hl (by decide) rfl (fun ls hl => ?_)
                                      refine lv_iinc (v := nI (i + 1)) (lv' := [(7, .int (nI (i + 1))), (3, .long (lN ((cntN (upK n fo ki we j) i) + 0))), (5, .long (lN ((cntN (lowK fo j) i) + 1))), (9, .int (nI 0)), (8, .int (nI 1)), (0, .ref (ad 0)), (1, .int (nI j)), (2, .int (nI w))]) hx hb dX3_odds_162 hl (k := 4) rfl xinc1 (by decide) rfl (fun ls hl => ?_)
                                      refine lv_goto (tgt := 57) hx hb dX3_odds_165 (by decide) ?_
                                      exact ih (i + 1) (lN ((cntN (lowK fo j) i) + 1)) (lN ((cntN (upK n fo ki we j) i) + 0)) (by rw [cnt_y (lk_y c_73 c_86)]) (by rw [cnt_n (uk_x (mz_gt hwe hn c_119)), Nat.add_zero]) (by omega) (by omega) ls (lv_sub hl [0, 2, 1, 5, 6, 7] rfl)
                                    · exact absurd (by decide) c_152
                              ·
                                replace c_119 : ¬ 0 < (zI (mrZ n fo ki we (i ^^^ (2 ^ j)))).toInt := (not_congr (i32_gtc (b := 0) (by omega))).mp c_119
                                refine lv_iconst (v := nI 1) hx hb dX3_odds_122 (by decide) ?_
                                refine lv_goto (tgt := 127) hx hb dX3_odds_123 (by decide) ?_
                                refine lv_istore (lv' := [(9, .int (nI 1)), (8, .int (nI 1)), (7, .int (nI i)), (5, .long (lN (cntN (lowK fo j) i))), (3, .long (lN (cntN (upK n fo ki we j) i))), (0, .ref (ad 0)), (1, .int (nI j)), (2, .int (nI w))]) hx hb dX3_odds_127 hl (by decide) rfl (fun ls hl => ?_)
                                refine lv_lload hx hb dX3_odds_129 (lv_at hl 3 rfl) ?_
                                refine lv_iload hx hb dX3_odds_131 (lv_at hl 1 rfl) ?_
                                refine lv_if_eq (tgt := 140) hx hb dX3_odds_133 (by decide) (fun c_133 => ?_) (fun c_133 => ?_)
                                · exact absurd c_133 (by decide)
                                ·
                                  refine lv_lconst (v := lN 1) hx hb dX3_odds_136 rfl ?_
                                  refine lv_goto (tgt := 141) hx hb dX3_odds_137 (by decide) ?_
                                  refine xladdN hx hb dX3_odds_141 ?_
                                  refine lv_lstore (lv' := [(5, .long (lN ((cntN (lowK fo j) i) + 1))), (9, .int (nI 1)), (8, .int (nI 1)), (7, .int (nI i)), (3, .long (lN (cntN (upK n fo ki we j) i))), (0, .ref (ad 0)), (1, .int (nI j)), (2, .int (nI w))]) hx hb dX3_odds_142 hl (by decide) rfl (fun ls hl => ?_)
                                  refine lv_lload_n hx hb dX3_odds_144 rfl (lv_at hl 4 rfl) ?_
                                  refine lv_iload hx hb dX3_odds_145 (lv_at hl 2 rfl) ?_
                                  refine lv_if_eq (tgt := 159) hx hb dX3_odds_147 (by decide) (fun c_147 => ?_) (fun c_147 => ?_)
                                  · exact absurd c_147 (by decide)
                                  ·
                                    refine lv_iload hx hb dX3_odds_150 (lv_at hl 1 rfl) ?_
                                    refine lv_if_eq (tgt := 159) hx hb dX3_odds_152 (by decide) (fun c_152 => ?_) (fun c_152 => ?_)
                                    · exact absurd c_152 (by decide)
                                    ·
                                      refine lv_lconst (v := lN 1) hx hb dX3_odds_155 rfl ?_
                                      refine lv_goto (tgt := 160) hx hb dX3_odds_156 (by decide) ?_
                                      refine xladdN hx hb dX3_odds_160 ?_
                                      refine lv_lstore_n (lv' := [(3, .long (lN ((cntN (upK n fo ki we j) i) + 1))), (5, .long (lN ((cntN (lowK fo j) i) + 1))), (9, .int (nI 1)), (8, .int (nI 1)), (7, .int (nI i)), (0, .ref (ad 0)), (1, .int (nI j)), (2, .int (nI w))]) hx hb dX3_odds_161 rfl hl (by decide) rfl (fun ls hl => ?_)
                                      refine lv_iinc (v := nI (i + 1)) (lv' := [(7, .int (nI (i + 1))), (3, .long (lN ((cntN (upK n fo ki we j) i) + 1))), (5, .long (lN ((cntN (lowK fo j) i) + 1))), (9, .int (nI 1)), (8, .int (nI 1)), (0, .ref (ad 0)), (1, .int (nI j)), (2, .int (nI w))]) hx hb dX3_odds_162 hl (k := 4) rfl xinc1 (by decide) rfl (fun ls hl => ?_)
                                      refine lv_goto (tgt := 57) hx hb dX3_odds_165 (by decide) ?_
                                      exact ih (i + 1) (lN ((cntN (lowK fo j) i) + 1)) (lN ((cntN (upK n fo ki we j) i) + 1)) (by rw [cnt_y (lk_y c_73 c_86)]) (by rw [cnt_y (uk_y (lk_y c_73 c_86) (mz_gt2 hwe hn c_102) (mz_le2 hwe hn c_119))]) (by omega) (by omega) ls (lv_sub hl [0, 2, 1, 5, 6, 7] rfl)
              exact K57 _ 0 (lN 0) (lN 0) (by first | rfl | exact Nat.zero_le _) (by first | rfl | exact Nat.zero_le _) (by first | rfl | exact Nat.zero_le _) (Nat.lt_succ_self _) ls (lv_sub hl [0, 1, 2, 3, 4, 5] rfl)
            ·
              replace c_42 := bI_n0.mp c_42
              refine xrdl (va_runS (As := []) (rest := []) hF (c_X3_lost l D cI cS  ) (va_cwS 0 hts gX3_odds_X3_lost rfl rfl rfl hD_X3_lost ⟨Nat.le_of_ble_eq_true rfl, Nat.le_of_ble_eq_true rfl⟩) (PR.pre hG (hP.sub (ws' := []) [] rfl)) rfl rfl hl.1 rfl (lv_room (Nat.le_of_ble_eq_true rfl)) dX3_odds_45 ⟨Nat.le_refl _, Nat.le_refl _⟩) ?_
              exact xretRl hx hb hr hlk dX3_odds_48 (by first | (simp [A_odds, lostL, c_4, hdn, c_9, c_17, hclj, hm1, c_27, hclw, c_31, c_42]; done) | (simp [A_odds, lostL, hasB_m1, c_4, hdn, c_9, c_17, hclj, hm1, c_27, hclw, c_31, c_42]; done))

theorem hV_X0_becomes : yX0_becomes.cls = RX0 ∧ yX0_becomes.cls ≠ "java/lang/invoke/MethodHandle" ∧ yX0_becomes.cls ≠ "java/lang/invoke/VarHandle" ∧ (parseMethodDescriptor yX0_becomes.desc).map (fun d => d.parameters.length) = some 1 := by decide +kernel
theorem hV_X2_allReadingsAreSo : yX2_allReadingsAreSo.cls = RX2 ∧ yX2_allReadingsAreSo.cls ≠ "java/lang/invoke/MethodHandle" ∧ yX2_allReadingsAreSo.cls ≠ "java/lang/invoke/VarHandle" ∧ (parseMethodDescriptor yX2_allReadingsAreSo.desc).map (fun d => d.parameters.length) = some 3 := by decide +kernel
theorem hV_X2_isCarriedIfAtSea : yX2_isCarriedIfAtSea.cls = RX2 ∧ yX2_isCarriedIfAtSea.cls ≠ "java/lang/invoke/MethodHandle" ∧ yX2_isCarriedIfAtSea.cls ≠ "java/lang/invoke/VarHandle" ∧ (parseMethodDescriptor yX2_isCarriedIfAtSea.desc).map (fun d => d.parameters.length) = some 1 := by decide +kernel
theorem hD_X2_isUpperOrLower : yX2_isUpperOrLower.cls ≠ "java/lang/invoke/MethodHandle" ∧ yX2_isUpperOrLower.cls ≠ "java/lang/invoke/VarHandle" ∧ (parseMethodDescriptor yX2_isUpperOrLower.desc).map (fun d => d.parameters.length) = some 1 := by decide +kernel
theorem hD_X2_share : yX2_share.cls ≠ "java/lang/invoke/MethodHandle" ∧ yX2_share.cls ≠ "java/lang/invoke/VarHandle" ∧ (parseMethodDescriptor yX2_share.desc).map (fun d => d.parameters.length) = some 3 := by decide +kernel
theorem hV_X2_waysDecidedBy : yX2_waysDecidedBy.cls = RX2 ∧ yX2_waysDecidedBy.cls ≠ "java/lang/invoke/MethodHandle" ∧ yX2_waysDecidedBy.cls ≠ "java/lang/invoke/VarHandle" ∧ (parseMethodDescriptor yX2_waysDecidedBy.desc).map (fun d => d.parameters.length) = some 2 := by decide +kernel
theorem hV_X2_waysThatCarry : yX2_waysThatCarry.cls = RX2 ∧ yX2_waysThatCarry.cls ≠ "java/lang/invoke/MethodHandle" ∧ yX2_waysThatCarry.cls ≠ "java/lang/invoke/VarHandle" ∧ (parseMethodDescriptor yX2_waysThatCarry.desc).map (fun d => d.parameters.length) = some 1 := by decide +kernel
set_option maxHeartbeats 4000000 in
set_option maxRecDepth 100000 in
theorem c_X2_isCarriedIfAtSea (l : Launch) (D : va_G) (cI cS : ClassId) (ad : Nat → Nat) (sh : Nat → Bool) (sla : Nat → Nat) (sle : Nat → Nat) (sf : Nat → Nat → Int32) (n : Nat) (fo : Nat) (ki : Nat → Nat) (st : Nat → Nat) (we : Nat → Nat) (lo : Nat → Nat) (n2 : Nat) (go : Nat) (kj : Nat → Nat) (sj : Nat → Nat) (wj : Nat → Nat) (lj : Nat → Nat) (ti : Nat → Int32) (rc : Nat → Nat) (rv : Nat → Nat) (rd : Nat) (tr : Int32) (fa : Nat) (s1 : Nat) (hnd : nd (adX ad)) (hn : n ≤ 8) (hfo : fo < 256) (hki : ∀ j, ki j ≤ 2) (hwe : ∀ j, we j ≤ 9) (hst : ∀ j, st j ≤ 3) (hlo : ∀ j, lo j ≤ 3) (hs : s1 < 256) (hs0 : s1 &&& fo = 0) : Met l yX2_isCarriedIfAtSea wsX2_isCarriedIfAtSea ({ frames := 5, cells := 0, slots := 0, locals := 106 }) (PR D cI cS [.ref (ad 0), .int (nI s1)] (wX cI cS ad sh sla sle sf n fo ki st we lo n2 go kj sj wj lj ti rc rv rd tr fa)) (va_Qi (fun r (zz : Unit) => r = bI (carB n fo ki st we (seaL n s1 lo))) (fun (zz : Unit) t => va_P D vwCl (wX cI cS ad sh sla sle sf n fo ki st we lo n fo ki st we (seaL n s1 lo) ti rc rv rd tr fa) t.heap) (AW (adX ad))) 0 0 (AW (adX ad)) := by
  refine startM (by decide) rfl (Nat.le_of_ble_eq_true rfl) hnd rfl ?_
  intro p e s m below meth c hx hb hr hts hown hlk hml hG hP hD hS ls hl
  have hl : lv_has ls 3 [(0, .ref (ad 0)), (1, .int (nI s1))] := hl
  have f24 := hts (.fieldLink RX2 24 "ChairBallot" "trial" "LChairBallot$Row;") (by decide +kernel)
  have f20 := hts (.fieldLink RX2 20 "ChairBallot" "now" "LChairBallot$Row;") (by decide +kernel)
  have f75 := hts (.fieldLink RX2 75 "ChairBallot$Row" "count" "I") (by decide +kernel)
  have yX0 : ∀ w ∈ u_ws RX0 TX0 6, w.before _ s = true := fun w h => hts w ((by decide +kernel : ∀ w ∈ wsX00, w ∈ wsX2_isCarriedIfAtSea) w h)
  have yX2 : ∀ w ∈ u_ws RX2 TX2 9, w.before _ s = true := fun w h => hts w ((by decide +kernel : ∀ w ∈ wsX20, w ∈ wsX2_isCarriedIfAtSea) w h)
  have hF : CallFix p m c cX2_isCarriedIfAtSea 3 s _ wsX2_isCarriedIfAtSea RX2 := ⟨hx, hb, hml, hown, hts⟩
  refine lv_aload_n hx hb dX2_isCarriedIfAtSea_0 rfl (lv_at hl 0 rfl) ?_
  refine va_get (D := D) (ci := 2) (v := .ref (ad 15)) (C := RX2) (T := TX2) (N := 9) hx hb yX2 (fun _ h => h) hown hG.1 hP 0 rfl rfl 2 (by decide) f24 (fun _ h => h) rfl dX2_isCarriedIfAtSea_1 ?_
  refine lv_aload_n hx hb dX2_isCarriedIfAtSea_4 rfl (lv_at hl 0 rfl) ?_
  refine va_get (D := D) (ci := 2) (v := .ref (ad 10)) (C := RX2) (T := TX2) (N := 9) hx hb yX2 (fun _ h => h) hown hG.1 hP 0 rfl rfl 1 (by decide) f20 (fun _ h => h) rfl dX2_isCarriedIfAtSea_5 ?_
  refine xmuv (wc := (wRow2 cI (ad 15) (ad 16) (ad 17) (ad 18) (ad 19) n2 go kj sj wj lj (ad 10) (ad 11) (ad 12) (ad 13) (ad 14) n fo ki st we lo)) (va_runV (As := [.ref (ad 10)]) (rest := []) hF (c_X0_becomes l D cI cS (ad 15) (ad 16) (ad 17) (ad 18) (ad 19) n2 go kj sj wj lj (ad 10) (ad 11) (ad 12) (ad 13) (ad 14) n fo ki st we lo (hnd.sub [15, 16, 17, 18, 19, 10, 11, 12, 13, 14] (by decide) rfl)) (cwV 1 hts gX2_isCarriedIfAtSea_X0_becomes rfl rfl rfl hV_X0_becomes ⟨Nat.le_of_ble_eq_true rfl, Nat.le_of_ble_eq_true rfl⟩) (PR.preV hG (hP.sub (ws' := (wRow2 cI (ad 15) (ad 16) (ad 17) (ad 18) (ad 19) n2 go kj sj wj lj (ad 10) (ad 11) (ad 12) (ad 13) (ad 14) n fo ki st we lo)) [15, 16, 17, 18, 19, 10, 11, 12, 13, 14] rfl) (ci := 0) rfl rfl) rfl rfl hl.1 rfl (lv_room (Nat.le_of_ble_eq_true rfl)) dX2_isCarriedIfAtSea_8 ⟨Nat.le_refl _, Nat.le_refl _⟩) hP hD hS [15, 16, 17, 18, 19, 10, 11, 12, 13, 14] rfl rfl (fun _ => rfl) (fun u_8 H locs q_8 hP hD hS => ?_)
  try dsimp only at q_8 hP hD
  have hP : va_P D vwCl (wX cI cS ad sh sla sle sf n fo ki st we lo n fo ki st we lo ti rc rv rd tr fa) H := hP
  have hD : va_D (AW (adX ad)) (wX cI cS ad sh sla sle sf n fo ki st we lo n fo ki st we lo ti rc rv rd tr fa) := hD
  refine lv_iconst (v := nI 0) hx hb dX2_isCarriedIfAtSea_11 (by decide) ?_
  refine lv_istore_n (lv' := [(2, .int (nI 0)), (0, .ref (ad 0)), (1, .int (nI s1))]) hx hb dX2_isCarriedIfAtSea_12 rfl hl (by decide) rfl (fun ls hl => ?_)
  have K13 : ∀ (fuel : Nat) (i : Nat) (g : Nat → Nat), g = seaL i s1 lo → (i ≤ n) → (n - i) < fuel → ∀ (H : Heap) (locs : List Loc), va_P D vwCl (wX cI cS ad sh sla sle sf n fo ki st we lo n fo ki st we g ti rc rv rd tr fa) H → va_D (AW (adX ad)) (wX cI cS ad sh sla sle sf n fo ki st we lo n fo ki st we g ti rc rv rd tr fa) → va_S (AW (adX ad)) s.heap H locs → ∀ ls : Array Slot, lv_has ls 3 [(2, .int (nI i)), (0, .ref (ad 0)), (1, .int (nI s1))] → W p l e ({ frames := 5, cells := 0, slots := 0, locals := 106 }) s m (([.ref (ad 0), .int (nI s1)] : List Value).toArray) below meth c H locs 0 0 (MQ below (va_Qi (fun r (zz : Unit) => r = bI (carB n fo ki st we (seaL n s1 lo))) (fun (zz : Unit) t => va_P D vwCl (wX cI cS ad sh sla sle sf n fo ki st we lo n fo ki st we (seaL n s1 lo) ti rc rv rd tr fa) t.heap) (AW (adX ad))) (([.ref (ad 0), .int (nI s1)] : List Value).toArray) s 0 0 (AW (adX ad))) (F0 m 13 ls []) := by
    intro fuel
    induction fuel with
    | zero => intro i g e_g hi hmu; exact absurd hmu (Nat.not_lt_zero _)
    | succ fuel ih =>
      intro i g e_g hi hmu H locs hP hD hS ls hl
      subst e_g
      refine lv_iload_n hx hb dX2_isCarriedIfAtSea_13 rfl (lv_at hl 0 rfl) ?_
      refine lv_aload_n hx hb dX2_isCarriedIfAtSea_14 rfl (lv_at hl 1 rfl) ?_
      refine va_get (D := D) (ci := 2) (v := .ref (ad 15)) (C := RX2) (T := TX2) (N := 9) hx hb yX2 (fun _ h => h) hown hG.1 hP 0 rfl rfl 2 (by decide) f24 (fun _ h => h) rfl dX2_isCarriedIfAtSea_15 ?_
      refine va_get (D := D) (ci := 0) (v := .int (nI n)) (C := RX0) (T := TX0) (N := 6) hx hb yX0 (fun _ h => h) hown hG.1 hP 15 rfl rfl 4 (by decide) f75 (fun _ h => h) rfl dX2_isCarriedIfAtSea_18 ?_
      refine lv_icmp_ge (tgt := 48) hx hb dX2_isCarriedIfAtSea_21 (by decide) (fun c_21 => ?_) (fun c_21 => ?_)
      ·
        replace c_21 := (nI_leI (a := n) (b := i) (by omega) (by omega)).mp c_21
        have hin : n = i := by omega
        subst hin
        refine lv_aload_n hx hb dX2_isCarriedIfAtSea_48 rfl (lv_at hl 1 rfl) ?_
        refine va_get (D := D) (ci := 2) (v := .ref (ad 15)) (C := RX2) (T := TX2) (N := 9) hx hb yX2 (fun _ h => h) hown hG.1 hP 0 rfl rfl 2 (by decide) f24 (fun _ h => h) rfl dX2_isCarriedIfAtSea_49 ?_
        refine xrd (va_runV (As := []) (rest := []) hF (c_X0_isCarried l D cI cS (ad 15) (ad 16) (ad 17) (ad 18) (ad 19) n fo ki st we (seaL n s1 lo) (by first | assumption | omega) (by first | assumption | omega) (by first | assumption | omega) (by first | assumption | omega) (by first | assumption | omega) (by first | assumption | exact sea_le hlo | exact blw_le hlo (by omega))) (cwV 0 hts gX2_isCarriedIfAtSea_X0_isCarried rfl rfl rfl hV_X0_isCarried ⟨Nat.le_of_ble_eq_true rfl, Nat.le_of_ble_eq_true rfl⟩) (PR.preV hG (hP.sub (ws' := (wRow cI (ad 15) (ad 16) (ad 17) (ad 18) (ad 19) n fo ki st we (seaL n s1 lo))) [15, 16, 17, 18, 19] rfl) (ci := 0) rfl rfl) rfl rfl hl.1 rfl (lv_room (Nat.le_of_ble_eq_true rfl)) dX2_isCarriedIfAtSea_52 ⟨Nat.le_refl _, Nat.le_refl _⟩) ?_
        exact xretMz hx hb hr hlk dX2_isCarriedIfAtSea_55 hS (decide (0 < sumZ (tiN n fo ki st we (seaL n s1 lo)) n)) rfl () (by rfl) (fun t ht => by rw [ht]; exact hP)
      ·
        replace c_21 := (not_congr (nI_leI (a := n) (b := i) (by omega) (by omega))).mp c_21
        refine lv_iload_n hx hb dX2_isCarriedIfAtSea_24 rfl (lv_at hl 2 rfl) ?_
        refine lv_iload_n hx hb dX2_isCarriedIfAtSea_25 rfl (lv_at hl 0 rfl) ?_
        refine xrd (va_runS (As := [.int (nI s1), .int (nI i)]) (rest := []) hF (c_X2_isIn l D cI cS s1 i (by first | assumption | omega) (by first | assumption | omega)) (va_cwS 2 hts gX2_isCarriedIfAtSea_X2_isIn rfl rfl rfl hD_X2_isIn ⟨Nat.le_of_ble_eq_true rfl, Nat.le_of_ble_eq_true rfl⟩) (PR.pre hG (hP.sub (ws' := []) [] rfl)) rfl rfl hl.1 rfl (lv_room (Nat.le_of_ble_eq_true rfl)) dX2_isCarriedIfAtSea_26 ⟨Nat.le_refl _, Nat.le_refl _⟩) ?_
        refine lv_if_eq (tgt := 42) hx hb dX2_isCarriedIfAtSea_29 (by decide) (fun c_29 => ?_) (fun c_29 => ?_)
        ·
          replace c_29 := bI_0.mp c_29
          refine lv_iinc (v := nI (i + 1)) (lv' := [(2, .int (nI (i + 1))), (0, .ref (ad 0)), (1, .int (nI s1))]) hx hb dX2_isCarriedIfAtSea_42 hl (k := 0) rfl xinc1 (by decide) rfl (fun ls hl => ?_)
          refine lv_goto (tgt := 13) hx hb dX2_isCarriedIfAtSea_45 (by decide) ?_
          exact ih (i + 1) (seaL i s1 lo) (by first | exact sea_n c_29 | exact sea_y hs0 c_29) (by omega) (by omega) _ _ hP hD hS ls (lv_sub hl [0, 1, 2] rfl)
        ·
          replace c_29 := bI_n0.mp c_29
          refine lv_aload_n hx hb dX2_isCarriedIfAtSea_32 rfl (lv_at hl 1 rfl) ?_
          refine va_get (D := D) (ci := 2) (v := .ref (ad 15)) (C := RX2) (T := TX2) (N := 9) hx hb yX2 (fun _ h => h) hown hG.1 hP 0 rfl rfl 2 (by decide) f24 (fun _ h => h) rfl dX2_isCarriedIfAtSea_33 ?_
          refine lv_iload_n hx hb dX2_isCarriedIfAtSea_36 rfl (lv_at hl 0 rfl) ?_
          refine lv_iconst (v := nI 0) hx hb dX2_isCarriedIfAtSea_37 (by decide) ?_
          refine xmu (wc := (wRow cI (ad 15) (ad 16) (ad 17) (ad 18) (ad 19) n fo ki st we (seaL i s1 lo))) (va_runV (As := [.int (nI i), .int (nI 0)]) (rest := []) hF (c_X0_turned l D cI cS (ad 15) (ad 16) (ad 17) (ad 18) (ad 19) n fo ki st we (seaL i s1 lo) i 0 (hnd.sub [15, 16, 17, 18, 19] (by decide) rfl) (by first | assumption | omega) (by first | assumption | omega) (by first | assumption | omega)) (cwV 2 hts gX2_isCarriedIfAtSea_X0_turned rfl rfl rfl hV_X0_turned ⟨Nat.le_of_ble_eq_true rfl, Nat.le_of_ble_eq_true rfl⟩) (PR.preV hG (hP.sub (ws' := (wRow cI (ad 15) (ad 16) (ad 17) (ad 18) (ad 19) n fo ki st we (seaL i s1 lo))) [15, 16, 17, 18, 19] rfl) (ci := 0) rfl rfl) rfl rfl hl.1 rfl (lv_room (Nat.le_of_ble_eq_true rfl)) dX2_isCarriedIfAtSea_38 ⟨Nat.le_refl _, Nat.le_refl _⟩) hP hD hS [15, 16, 17, 18, 19] rfl rfl (fun _ => rfl) (fun r_38 u_38 H locs q_38 hP hD hS => ?_)
          try dsimp only at q_38 hP hD
          have e_38 := q_38
          subst e_38
          have hP : va_P D vwCl (wX cI cS ad sh sla sle sf n fo ki st we lo n fo ki st we (trn fo (seaL i s1 lo) i 0) ti rc rv rd tr fa) H := hP
          have hD : va_D (AW (adX ad)) (wX cI cS ad sh sla sle sf n fo ki st we lo n fo ki st we (trn fo (seaL i s1 lo) i 0) ti rc rv rd tr fa) := hD
          refine lv_pop hx hb dX2_isCarriedIfAtSea_41 rfl ?_
          refine lv_iinc (v := nI (i + 1)) (lv' := [(2, .int (nI (i + 1))), (0, .ref (ad 0)), (1, .int (nI s1))]) hx hb dX2_isCarriedIfAtSea_42 hl (k := 0) rfl xinc1 (by decide) rfl (fun ls hl => ?_)
          refine lv_goto (tgt := 13) hx hb dX2_isCarriedIfAtSea_45 (by decide) ?_
          exact ih (i + 1) (trn fo (seaL i s1 lo) i 0) (by first | exact sea_n c_29 | exact sea_y hs0 c_29) (by omega) (by omega) _ _ hP hD hS ls (lv_sub hl [0, 1, 2] rfl)
  exact K13 _ 0 lo (by first | exact sea_0.symm | omega) (by first | exact sea_0.symm | omega) (Nat.lt_succ_self _) _ _ hP hD hS ls (lv_sub hl [0, 1, 2] rfl)

set_option maxHeartbeats 4000000 in
set_option maxRecDepth 100000 in
theorem c_X2_swing (l : Launch) (D : va_G) (cI cS : ClassId) (ad : Nat → Nat) (sh : Nat → Bool) (sla : Nat → Nat) (sle : Nat → Nat) (sf : Nat → Nat → Int32) (n : Nat) (fo : Nat) (ki : Nat → Nat) (st : Nat → Nat) (we : Nat → Nat) (lo : Nat → Nat) (n2 : Nat) (go : Nat) (kj : Nat → Nat) (sj : Nat → Nat) (wj : Nat → Nat) (lj : Nat → Nat) (ti : Nat → Int32) (rc : Nat → Nat) (rv : Nat → Nat) (rd : Nat) (tr : Int32) (fa : Nat) (hnd : nd (adX ad)) (hn : n ≤ 8) (hfo : fo < 256) (hki : ∀ j, ki j ≤ 2) (hwe : ∀ j, we j ≤ 9) (hst : ∀ j, st j ≤ 3) (hlo : ∀ j, lo j ≤ 3) : Met l yX2_swing wsX2_swing ({ frames := 6, cells := 0, slots := 0, locals := 128 }) (PR D cI cS [.ref (ad 0)] (wX cI cS ad sh sla sle sf n fo ki st we lo n2 go kj sj wj lj ti rc rv rd tr fa)) (va_Qi (fun r (zz : Nat × Nat × (Nat → Nat) × (Nat → Nat) × (Nat → Nat) × (Nat → Nat)) => r = A_swing n fo ki st we lo) (fun (zz : Nat × Nat × (Nat → Nat) × (Nat → Nat) × (Nat → Nat) × (Nat → Nat)) t => va_P D vwCl (wX cI cS ad sh sla sle sf n fo ki st we lo zz.1 zz.2.1 zz.2.2.1 zz.2.2.2.1 zz.2.2.2.2.1 zz.2.2.2.2.2 ti rc rv rd tr fa) t.heap) (AW (adX ad))) 0 0 (AW (adX ad)) := by
  refine startM (by decide) rfl (Nat.le_of_ble_eq_true rfl) hnd rfl ?_
  intro p e s m below meth c hx hb hr hts hown hlk hml hG hP hD hS ls hl
  have hl : lv_has ls 6 [(0, .ref (ad 0))] := hl
  have f20 := hts (.fieldLink RX2 20 "ChairBallot" "now" "LChairBallot$Row;") (by decide +kernel)
  have f75 := hts (.fieldLink RX2 75 "ChairBallot$Row" "count" "I") (by decide +kernel)
  have f136 := hts (.fieldLink RX2 136 "ChairBallot$Row" "folded" "I") (by decide +kernel)
  have yX0 : ∀ w ∈ u_ws RX0 TX0 6, w.before _ s = true := fun w h => hts w ((by decide +kernel : ∀ w ∈ wsX00, w ∈ wsX2_swing) w h)
  have yX2 : ∀ w ∈ u_ws RX2 TX2 9, w.before _ s = true := fun w h => hts w ((by decide +kernel : ∀ w ∈ wsX20, w ∈ wsX2_swing) w h)
  have hF : CallFix p m c cX2_swing 6 s _ wsX2_swing RX2 := ⟨hx, hb, hml, hown, hts⟩
  refine lv_aload_n hx hb dX2_swing_0 rfl (lv_at hl 0 rfl) ?_
  refine xrd (va_runV (As := []) (rest := []) hF (c_X2_hasFront l D cI cS ad sh sla sle sf n fo ki st we lo n2 go kj sj wj lj ti rc rv rd tr fa (by first | assumption | omega)) (cwV 0 hts gX2_swing_X2_hasFront rfl rfl rfl hV_X2_hasFront ⟨Nat.le_of_ble_eq_true rfl, Nat.le_of_ble_eq_true rfl⟩) (PR.preV hG hP (ci := 2) rfl rfl) rfl rfl hl.1 rfl (lv_room (Nat.le_of_ble_eq_true rfl)) dX2_swing_1 ⟨Nat.le_refl _, Nat.le_refl _⟩) ?_
  refine lv_if_ne (tgt := 10) hx hb dX2_swing_4 (by decide) (fun c_4 => ?_) (fun c_4 => ?_)
  ·
    replace c_4 := bI_n0.mp c_4
    replace c_4 := of_decide_eq_true c_4
    have hn0 : ¬ n = 0 := by omega
    refine lv_bipush (v := (-9)) hx hb dX2_swing_10 (by decide) ?_
    refine lv_istore_n (lv' := [(1, .int (-9)), (0, .ref (ad 0))]) hx hb dX2_swing_12 rfl hl (by decide) rfl (fun ls hl => ?_)
    refine lv_bipush (v := nI 9) hx hb dX2_swing_13 (by decide) ?_
    refine lv_istore_n (lv' := [(2, .int (nI 9)), (1, .int (-9)), (0, .ref (ad 0))]) hx hb dX2_swing_15 rfl hl (by decide) rfl (fun ls hl => ?_)
    have h2n := two_pow_le hn
    refine lv_iconst (v := nI 1) hx hb dX2_swing_16 (by decide) ?_
    refine lv_aload_n hx hb dX2_swing_17 rfl (lv_at hl 2 rfl) ?_
    refine va_get (D := D) (ci := 2) (v := .ref (ad 10)) (C := RX2) (T := TX2) (N := 9) hx hb yX2 (fun _ h => h) hown hG.1 hP 0 rfl rfl 1 (by decide) f20 (fun _ h => h) rfl dX2_swing_18 ?_
    refine va_get (D := D) (ci := 0) (v := .int (nI n)) (C := RX0) (T := TX0) (N := 6) hx hb yX0 (fun _ h => h) hown hG.1 hP 10 rfl rfl 4 (by decide) f75 (fun _ h => h) rfl dX2_swing_21 ?_
    refine lv_ishl hx hb dX2_swing_24 ?_
    refine xtop (x' := nI (2 ^ n)) (by exact shl1 n (by omega)) ?_
    refine lv_istore_n (lv' := [(3, .int (nI (2 ^ n))), (2, .int (nI 9)), (1, .int (-9)), (0, .ref (ad 0))]) hx hb dX2_swing_25 rfl hl (by decide) rfl (fun ls hl => ?_)
    refine lv_iconst (v := nI 0) hx hb dX2_swing_26 (by decide) ?_
    refine lv_istore (lv' := [(4, .int (nI 0)), (3, .int (nI (2 ^ n))), (2, .int (nI 9)), (1, .int (-9)), (0, .ref (ad 0))]) hx hb dX2_swing_27 hl (by decide) rfl (fun ls hl => ?_)
    have K29 : ∀ (fuel : Nat) (i : Nat) (n2_29 : Nat) (go_29 : Nat) (kj_29 : Nat → Nat) (sj_29 : Nat → Nat) (wj_29 : Nat → Nat) (lj_29 : Nat → Nat) (x2 : Int32) (x1 : Int32), x2 = nI (optF (swO (swP n fo ki st we lo) i)) → x1 = optI (swO (swP n fo ki st we lo) i) → (i ≤ 2 ^ n) → (2 ^ n - i) < fuel → ∀ (H : Heap) (locs : List Loc), va_P D vwCl (wX cI cS ad sh sla sle sf n fo ki st we lo n2_29 go_29 kj_29 sj_29 wj_29 lj_29 ti rc rv rd tr fa) H → va_D (AW (adX ad)) (wX cI cS ad sh sla sle sf n fo ki st we lo n2_29 go_29 kj_29 sj_29 wj_29 lj_29 ti rc rv rd tr fa) → va_S (AW (adX ad)) s.heap H locs → ∀ ls : Array Slot, lv_has ls 6 [(4, .int (nI i)), (3, .int (nI (2 ^ n))), (2, .int x2), (1, .int x1), (0, .ref (ad 0))] → W p l e ({ frames := 6, cells := 0, slots := 0, locals := 128 }) s m (([.ref (ad 0)] : List Value).toArray) below meth c H locs 0 0 (MQ below (va_Qi (fun r (zz : Nat × Nat × (Nat → Nat) × (Nat → Nat) × (Nat → Nat) × (Nat → Nat)) => r = A_swing n fo ki st we lo) (fun (zz : Nat × Nat × (Nat → Nat) × (Nat → Nat) × (Nat → Nat) × (Nat → Nat)) t => va_P D vwCl (wX cI cS ad sh sla sle sf n fo ki st we lo zz.1 zz.2.1 zz.2.2.1 zz.2.2.2.1 zz.2.2.2.2.1 zz.2.2.2.2.2 ti rc rv rd tr fa) t.heap) (AW (adX ad))) (([.ref (ad 0)] : List Value).toArray) s 0 0 (AW (adX ad))) (F0 m 29 ls []) := by
      intro fuel
      induction fuel with
      | zero => intro i n2_29 go_29 kj_29 sj_29 wj_29 lj_29 x2 x1 e_x2 e_x1 hi hmu; exact absurd hmu (Nat.not_lt_zero _)
      | succ fuel ih =>
        intro i n2_29 go_29 kj_29 sj_29 wj_29 lj_29 x2 x1 e_x2 e_x1 hi hmu H locs hP hD hS ls hl
        subst e_x2
        subst e_x1
        have hp := popN_le i
        have hq := optF_le (swO (swP n fo ki st we lo) i)
        have ha := and_lt (a := i) hfo
        refine lv_iload hx hb dX2_swing_29 (lv_at hl 0 rfl) ?_
        refine lv_iload_n hx hb dX2_swing_31 rfl (lv_at hl 1 rfl) ?_
        refine lv_icmp_ge (tgt := 82) hx hb dX2_swing_32 (by decide) (fun c_32 => ?_) (fun c_32 => ?_)
        ·
          replace c_32 := (nI_leI (a := 2 ^ n) (b := i) (by omega) (by omega)).mp c_32
          have hin : 2 ^ n = i := by omega
          subst hin
          refine lv_iload_n hx hb dX2_swing_82 rfl (lv_at hl 3 rfl) ?_
          exact xretM hx hb hr hlk dX2_swing_83 hS ⟨n2_29, go_29, kj_29, sj_29, wj_29, lj_29⟩ (by simp [A_swing, c_4, hn0, c_32]) (fun t ht => by rw [ht]; exact hP)
        ·
          replace c_32 := (not_congr (nI_leI (a := 2 ^ n) (b := i) (by omega) (by omega))).mp c_32
          refine lv_iload hx hb dX2_swing_35 (lv_at hl 0 rfl) ?_
          refine xrd (va_runS (As := [.int (nI i)]) (rest := []) hF (c_J6_bitCount l D cI cS i (by first | assumption | omega)) (va_cwS 1 hts gX2_swing_J6_bitCount_0f7a4 rfl rfl rfl hD_J6_bitCount_0f7a4 ⟨Nat.le_of_ble_eq_true rfl, Nat.le_of_ble_eq_true rfl⟩) (PR.pre hG (hP.sub (ws' := []) [] rfl)) rfl rfl hl.1 rfl (lv_room (Nat.le_of_ble_eq_true rfl)) dX2_swing_37 ⟨Nat.le_refl _, Nat.le_refl _⟩) ?_
          refine lv_istore (lv' := [(5, .int (nI (popN i))), (4, .int (nI i)), (3, .int (nI (2 ^ n))), (2, .int (nI (optF (swO (swP n fo ki st we lo) i)))), (1, .int (optI (swO (swP n fo ki st we lo) i))), (0, .ref (ad 0))]) hx hb dX2_swing_40 hl (by decide) rfl (fun ls hl => ?_)
          refine lv_iload hx hb dX2_swing_42 (lv_at hl 0 rfl) ?_
          refine lv_iload_n hx hb dX2_swing_44 rfl (lv_at hl 3 rfl) ?_
          refine lv_icmp_ge (tgt := 76) hx hb dX2_swing_45 (by decide) (fun c_45 => ?_) (fun c_45 => ?_)
          ·
            replace c_45 := (nI_leI (a := optF (swO (swP n fo ki st we lo) i)) (b := popN i) (by omega) (by omega)).mp c_45
            refine lv_iinc (v := nI (i + 1)) (lv' := [(4, .int (nI (i + 1))), (5, .int (nI (popN i))), (3, .int (nI (2 ^ n))), (2, .int (nI (optF (swO (swP n fo ki st we lo) i)))), (1, .int (optI (swO (swP n fo ki st we lo) i))), (0, .ref (ad 0))]) hx hb dX2_swing_76 hl (k := 1) rfl xinc1 (by decide) rfl (fun ls hl => ?_)
            refine lv_goto (tgt := 29) hx hb dX2_swing_79 (by decide) ?_
            exact ih (i + 1) n2_29 go_29 kj_29 sj_29 wj_29 lj_29 (nI (optF (swO (swP n fo ki st we lo) i))) (optI (swO (swP n fo ki st we lo) i)) (by rw [sw_n1 c_45]) (by rw [sw_n1 c_45]) (by omega) (by omega) _ _ hP hD hS ls (lv_sub hl [0, 2, 3, 4, 5] rfl)
          ·
            replace c_45 := (not_congr (nI_leI (a := optF (swO (swP n fo ki st we lo) i)) (b := popN i) (by omega) (by omega))).mp c_45
            refine lv_iload hx hb dX2_swing_48 (lv_at hl 1 rfl) ?_
            refine lv_aload_n hx hb dX2_swing_50 rfl (lv_at hl 5 rfl) ?_
            refine va_get (D := D) (ci := 2) (v := .ref (ad 10)) (C := RX2) (T := TX2) (N := 9) hx hb yX2 (fun _ h => h) hown hG.1 hP 0 rfl rfl 1 (by decide) f20 (fun _ h => h) rfl dX2_swing_51 ?_
            refine va_get (D := D) (ci := 0) (v := .int (nI fo)) (C := RX0) (T := TX0) (N := 6) hx hb yX0 (fun _ h => h) hown hG.1 hP 10 rfl rfl 5 (by decide) f136 (fun _ h => h) rfl dX2_swing_54 ?_
            refine lv_iand hx hb dX2_swing_57 ?_
            refine xtop (x' := nI (i &&& fo)) (by exact nI_and _ _) ?_
            refine lv_if_ne (tgt := 76) hx hb dX2_swing_58 (by decide) (fun c_58 => ?_) (fun c_58 => ?_)
            ·
              replace c_58 := (not_congr (nI_eq (a := i &&& fo) (b := 0) (by omega) (by omega))).mp c_58
              refine lv_iinc (v := nI (i + 1)) (lv' := [(4, .int (nI (i + 1))), (5, .int (nI (popN i))), (3, .int (nI (2 ^ n))), (2, .int (nI (optF (swO (swP n fo ki st we lo) i)))), (1, .int (optI (swO (swP n fo ki st we lo) i))), (0, .ref (ad 0))]) hx hb dX2_swing_76 hl (k := 1) rfl xinc1 (by decide) rfl (fun ls hl => ?_)
              refine lv_goto (tgt := 29) hx hb dX2_swing_79 (by decide) ?_
              exact ih (i + 1) n2_29 go_29 kj_29 sj_29 wj_29 lj_29 (nI (optF (swO (swP n fo ki st we lo) i))) (optI (swO (swP n fo ki st we lo) i)) (by rw [sw_n2 (swP_n c_58)]) (by rw [sw_n2 (swP_n c_58)]) (by omega) (by omega) _ _ hP hD hS ls (lv_sub hl [0, 2, 3, 4, 5] rfl)
            ·
              replace c_58 := (nI_eq (a := i &&& fo) (b := 0) (by omega) (by omega)).mp c_58
              refine lv_aload_n hx hb dX2_swing_61 rfl (lv_at hl 5 rfl) ?_
              refine lv_iload hx hb dX2_swing_62 (lv_at hl 1 rfl) ?_
              refine xmuW (va_runV (As := [.int (nI i)]) (rest := []) hF (c_X2_isCarriedIfAtSea l D cI cS ad sh sla sle sf n fo ki st we lo n2_29 go_29 kj_29 sj_29 wj_29 lj_29 ti rc rv rd tr fa i hnd (by first | assumption | omega) (by first | assumption | omega) (by first | assumption | omega) (by first | assumption | omega) (by first | assumption | omega) (by first | assumption | omega) (by first | assumption | omega) (by exact c_58)) (cwV 1 hts gX2_swing_X2_isCarriedIfAtSea rfl rfl rfl hV_X2_isCarriedIfAtSea ⟨Nat.le_of_ble_eq_true rfl, Nat.le_of_ble_eq_true rfl⟩) (PR.preV hG hP (ci := 2) rfl rfl) rfl rfl hl.1 rfl (lv_room (Nat.le_of_ble_eq_true rfl)) dX2_swing_64 ⟨Nat.le_refl _, Nat.le_refl _⟩) hD hS rfl (fun _ => rfl) (fun r_64 u_64 H locs q_64 hP hD hS => ?_)
              try dsimp only at q_64 hP hD
              have e_64 := q_64
              subst e_64
              have hP : va_P D vwCl (wX cI cS ad sh sla sle sf n fo ki st we lo n fo ki st we (seaL n i lo) ti rc rv rd tr fa) H := hP
              have hD : va_D (AW (adX ad)) (wX cI cS ad sh sla sle sf n fo ki st we lo n fo ki st we (seaL n i lo) ti rc rv rd tr fa) := hD
              refine lv_if_eq (tgt := 76) hx hb dX2_swing_67 (by decide) (fun c_67 => ?_) (fun c_67 => ?_)
              ·
                replace c_67 := bI_0.mp c_67
                refine lv_iinc (v := nI (i + 1)) (lv' := [(4, .int (nI (i + 1))), (5, .int (nI (popN i))), (3, .int (nI (2 ^ n))), (2, .int (nI (optF (swO (swP n fo ki st we lo) i)))), (1, .int (optI (swO (swP n fo ki st we lo) i))), (0, .ref (ad 0))]) hx hb dX2_swing_76 hl (k := 1) rfl xinc1 (by decide) rfl (fun ls hl => ?_)
                refine lv_goto (tgt := 29) hx hb dX2_swing_79 (by decide) ?_
                exact ih (i + 1) n fo ki st we (seaL n i lo) (nI (optF (swO (swP n fo ki st we lo) i))) (optI (swO (swP n fo ki st we lo) i)) (by rw [sw_n2 (swP_m c_67)]) (by rw [sw_n2 (swP_m c_67)]) (by omega) (by omega) _ _ hP hD hS ls (lv_sub hl [0, 2, 3, 4, 5] rfl)
              ·
                replace c_67 := bI_n0.mp c_67
                refine lv_iload hx hb dX2_swing_70 (lv_at hl 1 rfl) ?_
                refine lv_istore_n (lv' := [(1, .int (nI i)), (5, .int (nI (popN i))), (4, .int (nI i)), (3, .int (nI (2 ^ n))), (2, .int (nI (optF (swO (swP n fo ki st we lo) i)))), (0, .ref (ad 0))]) hx hb dX2_swing_72 rfl hl (by decide) rfl (fun ls hl => ?_)
                refine lv_iload hx hb dX2_swing_73 (lv_at hl 1 rfl) ?_
                refine lv_istore_n (lv' := [(2, .int (nI (popN i))), (1, .int (nI i)), (5, .int (nI (popN i))), (4, .int (nI i)), (3, .int (nI (2 ^ n))), (0, .ref (ad 0))]) hx hb dX2_swing_75 rfl hl (by decide) rfl (fun ls hl => ?_)
                refine lv_iinc (v := nI (i + 1)) (lv' := [(4, .int (nI (i + 1))), (2, .int (nI (popN i))), (1, .int (nI i)), (5, .int (nI (popN i))), (3, .int (nI (2 ^ n))), (0, .ref (ad 0))]) hx hb dX2_swing_76 hl (k := 3) rfl xinc1 (by decide) rfl (fun ls hl => ?_)
                refine lv_goto (tgt := 29) hx hb dX2_swing_79 (by decide) ?_
                exact ih (i + 1) n fo ki st we (seaL n i lo) (nI (popN i)) (nI i) (by rw [sw_y c_45 (swP_y c_58 c_67)]; rfl) (by rw [sw_y c_45 (swP_y c_58 c_67)]; rfl) (by omega) (by omega) _ _ hP hD hS ls (lv_sub hl [0, 4, 1, 2, 5] rfl)
    exact K29 _ 0 n2 go kj sj wj lj (nI 9) (-9) (by first | rfl | exact Nat.zero_le _) (by first | rfl | exact Nat.zero_le _) (by first | rfl | exact Nat.zero_le _) (Nat.lt_succ_self _) _ _ hP hD hS ls (lv_sub hl [0, 1, 2, 3, 4] rfl)
  ·
    replace c_4 := bI_0.mp c_4
    replace c_4 := of_decide_eq_false c_4
    have hn0 : n = 0 := by omega
    refine lv_bipush (v := (-3)) hx hb dX2_swing_7 (by decide) ?_
    exact xretM hx hb hr hlk dX2_swing_9 hS ⟨n2, go, kj, sj, wj, lj⟩ (by simp [A_swing, c_4, hn0]) (fun t ht => by rw [ht]; exact hP)

set_option maxHeartbeats 4000000 in
set_option maxRecDepth 100000 in
theorem c_X2_blow (l : Launch) (D : va_G) (cI cS : ClassId) (ad : Nat → Nat) (sh : Nat → Bool) (sla : Nat → Nat) (sle : Nat → Nat) (sf : Nat → Nat → Int32) (n : Nat) (fo : Nat) (ki : Nat → Nat) (st : Nat → Nat) (we : Nat → Nat) (lo : Nat → Nat) (n2 : Nat) (go : Nat) (kj : Nat → Nat) (sj : Nat → Nat) (wj : Nat → Nat) (lj : Nat → Nat) (ti : Nat → Int32) (rc : Nat → Nat) (rv : Nat → Nat) (rd : Nat) (tr : Int32) (fa : Nat) (k : Int32) (hnd : nd (adX ad)) (hn : n ≤ 8) (hfo : fo < 256) (hki : ∀ j, ki j ≤ 2) (hwe : ∀ j, we j ≤ 9) (hst : ∀ j, st j ≤ 3) (hlo : ∀ j, lo j ≤ 3) : Met l yX2_blow wsX2_blow ({ frames := 5, cells := 0, slots := 0, locals := 106 }) (PR D cI cS [.ref (ad 0), .int k] (wX cI cS ad sh sla sle sf n fo ki st we lo n2 go kj sj wj lj ti rc rv rd tr fa)) (va_Qi (fun r (zz : Nat × Nat × (Nat → Nat) × (Nat → Nat) × (Nat → Nat) × (Nat → Nat)) => r = A_blow n fo ki st we lo k) (fun (zz : Nat × Nat × (Nat → Nat) × (Nat → Nat) × (Nat → Nat) × (Nat → Nat)) t => va_P D vwCl (wX cI cS ad sh sla sle sf n fo ki st we lo zz.1 zz.2.1 zz.2.2.1 zz.2.2.2.1 zz.2.2.2.2.1 zz.2.2.2.2.2 ti rc rv rd tr fa) t.heap) (AW (adX ad))) 0 0 (AW (adX ad)) := by
  refine startM (by decide) rfl (Nat.le_of_ble_eq_true rfl) hnd rfl ?_
  intro p e s m below meth c hx hb hr hts hown hlk hml hG hP hD hS ls hl
  have hl : lv_has ls 3 [(0, .ref (ad 0)), (1, .int k)] := hl
  have f24 := hts (.fieldLink RX2 24 "ChairBallot" "trial" "LChairBallot$Row;") (by decide +kernel)
  have f20 := hts (.fieldLink RX2 20 "ChairBallot" "now" "LChairBallot$Row;") (by decide +kernel)
  have yX2 : ∀ w ∈ u_ws RX2 TX2 9, w.before _ s = true := fun w h => hts w ((by decide +kernel : ∀ w ∈ wsX20, w ∈ wsX2_blow) w h)
  have hF : CallFix p m c cX2_blow 3 s _ wsX2_blow RX2 := ⟨hx, hb, hml, hown, hts⟩
  refine lv_aload_n hx hb dX2_blow_0 rfl (lv_at hl 0 rfl) ?_
  refine xrd (va_runV (As := []) (rest := []) hF (c_X2_hasFront l D cI cS ad sh sla sle sf n fo ki st we lo n2 go kj sj wj lj ti rc rv rd tr fa (by first | assumption | omega)) (cwV 0 hts gX2_blow_X2_hasFront rfl rfl rfl hV_X2_hasFront ⟨Nat.le_of_ble_eq_true rfl, Nat.le_of_ble_eq_true rfl⟩) (PR.preV hG hP (ci := 2) rfl rfl) rfl rfl hl.1 rfl (lv_room (Nat.le_of_ble_eq_true rfl)) dX2_blow_1 ⟨Nat.le_refl _, Nat.le_refl _⟩) ?_
  refine lv_if_ne (tgt := 10) hx hb dX2_blow_4 (by decide) (fun c_4 => ?_) (fun c_4 => ?_)
  ·
    replace c_4 := bI_n0.mp c_4
    replace c_4 := of_decide_eq_true c_4
    have hn0 : ¬ n = 0 := by omega
    refine lv_iload_n hx hb dX2_blow_10 rfl (lv_at hl 1 rfl) ?_
    refine xrd (va_runS (As := [.int k]) (rest := []) hF (c_X2_isWay l D cI cS k ) (va_cwS 1 hts gX2_blow_X2_isWay rfl rfl rfl hD_X2_isWay ⟨Nat.le_of_ble_eq_true rfl, Nat.le_of_ble_eq_true rfl⟩) (PR.pre hG (hP.sub (ws' := []) [] rfl)) rfl rfl hl.1 rfl (lv_room (Nat.le_of_ble_eq_true rfl)) dX2_blow_11 ⟨Nat.le_refl _, Nat.le_refl _⟩) ?_
    refine lv_if_ne (tgt := 20) hx hb dX2_blow_14 (by decide) (fun c_14 => ?_) (fun c_14 => ?_)
    ·
      replace c_14 := bI_n0.mp c_14
      obtain ⟨w, hw0, hw1, rfl⟩ := rgB_nat (by decide) c_14
      have hclw := cl8 (j := w) (by omega)
      refine lv_iconst (v := nI 0) hx hb dX2_blow_20 (by decide) ?_
      refine lv_istore_n (lv' := [(2, .int (nI 0)), (0, .ref (ad 0)), (1, .int (nI w))]) hx hb dX2_blow_21 rfl hl (by decide) rfl (fun ls hl => ?_)
      have K22 : ∀ (fuel : Nat) (i : Nat) (n2_22 : Nat) (go_22 : Nat) (kj_22 : Nat → Nat) (sj_22 : Nat → Nat) (wj_22 : Nat → Nat) (lj_22 : Nat → Nat), (i ≤ 11) → (∀ v, v < i → blP n fo ki st we lo w v = false) → (11 - i) < fuel → ∀ (H : Heap) (locs : List Loc), va_P D vwCl (wX cI cS ad sh sla sle sf n fo ki st we lo n2_22 go_22 kj_22 sj_22 wj_22 lj_22 ti rc rv rd tr fa) H → va_D (AW (adX ad)) (wX cI cS ad sh sla sle sf n fo ki st we lo n2_22 go_22 kj_22 sj_22 wj_22 lj_22 ti rc rv rd tr fa) → va_S (AW (adX ad)) s.heap H locs → ∀ ls : Array Slot, lv_has ls 3 [(2, .int (nI i)), (0, .ref (ad 0)), (1, .int (nI w))] → W p l e ({ frames := 5, cells := 0, slots := 0, locals := 106 }) s m (([.ref (ad 0), .int (nI w)] : List Value).toArray) below meth c H locs 0 0 (MQ below (va_Qi (fun r (zz : Nat × Nat × (Nat → Nat) × (Nat → Nat) × (Nat → Nat) × (Nat → Nat)) => r = A_blow n fo ki st we lo (nI w)) (fun (zz : Nat × Nat × (Nat → Nat) × (Nat → Nat) × (Nat → Nat) × (Nat → Nat)) t => va_P D vwCl (wX cI cS ad sh sla sle sf n fo ki st we lo zz.1 zz.2.1 zz.2.2.1 zz.2.2.2.1 zz.2.2.2.2.1 zz.2.2.2.2.2 ti rc rv rd tr fa) t.heap) (AW (adX ad))) (([.ref (ad 0), .int (nI w)] : List Value).toArray) s 0 0 (AW (adX ad))) (F0 m 22 ls []) := by
        intro fuel
        induction fuel with
        | zero => intro i n2_22 go_22 kj_22 sj_22 wj_22 lj_22 hi hno hmu; exact absurd hmu (Nat.not_lt_zero _)
        | succ fuel ih =>
          intro i n2_22 go_22 kj_22 sj_22 wj_22 lj_22 hi hno hmu H locs hP hD hS ls hl
          refine lv_iload_n hx hb dX2_blow_22 rfl (lv_at hl 0 rfl) ?_
          refine lv_bipush (v := nI 10) hx hb dX2_blow_23 (by decide) ?_
          refine lv_icmp_gt (tgt := 67) hx hb dX2_blow_25 (by decide) (fun c_25 => ?_) (fun c_25 => ?_)
          ·
            replace c_25 := (nI_ltI (a := 10) (b := i) (by omega) (by omega)).mp c_25
            refine lv_bipush (v := (-9)) hx hb dX2_blow_67 (by decide) ?_
            exact xretM hx hb hr hlk dX2_blow_69 hS ⟨n2_22, go_22, kj_22, sj_22, wj_22, lj_22⟩ (by have e9 : firstV (blP n fo ki st we lo w) 11 = none := firstV_none (fun v hv => hno v (by omega)); simp [A_blow, c_4, hn0, c_14, hclw, c_25, e9, optI]) (fun t ht => by rw [ht]; exact hP)
          ·
            replace c_25 := (not_congr (nI_ltI (a := 10) (b := i) (by omega) (by omega))).mp c_25
            refine lv_aload_n hx hb dX2_blow_28 rfl (lv_at hl 1 rfl) ?_
            refine va_get (D := D) (ci := 2) (v := .ref (ad 15)) (C := RX2) (T := TX2) (N := 9) hx hb yX2 (fun _ h => h) hown hG.1 hP 0 rfl rfl 2 (by decide) f24 (fun _ h => h) rfl dX2_blow_29 ?_
            refine lv_aload_n hx hb dX2_blow_32 rfl (lv_at hl 1 rfl) ?_
            refine va_get (D := D) (ci := 2) (v := .ref (ad 10)) (C := RX2) (T := TX2) (N := 9) hx hb yX2 (fun _ h => h) hown hG.1 hP 0 rfl rfl 1 (by decide) f20 (fun _ h => h) rfl dX2_blow_33 ?_
            refine xmuv (wc := (wRow2 cI (ad 15) (ad 16) (ad 17) (ad 18) (ad 19) n2_22 go_22 kj_22 sj_22 wj_22 lj_22 (ad 10) (ad 11) (ad 12) (ad 13) (ad 14) n fo ki st we lo)) (va_runV (As := [.ref (ad 10)]) (rest := []) hF (c_X0_becomes l D cI cS (ad 15) (ad 16) (ad 17) (ad 18) (ad 19) n2_22 go_22 kj_22 sj_22 wj_22 lj_22 (ad 10) (ad 11) (ad 12) (ad 13) (ad 14) n fo ki st we lo (hnd.sub [15, 16, 17, 18, 19, 10, 11, 12, 13, 14] (by decide) rfl)) (cwV 1 hts gX2_blow_X0_becomes rfl rfl rfl hV_X0_becomes ⟨Nat.le_of_ble_eq_true rfl, Nat.le_of_ble_eq_true rfl⟩) (PR.preV hG (hP.sub (ws' := (wRow2 cI (ad 15) (ad 16) (ad 17) (ad 18) (ad 19) n2_22 go_22 kj_22 sj_22 wj_22 lj_22 (ad 10) (ad 11) (ad 12) (ad 13) (ad 14) n fo ki st we lo)) [15, 16, 17, 18, 19, 10, 11, 12, 13, 14] rfl) (ci := 0) rfl rfl) rfl rfl hl.1 rfl (lv_room (Nat.le_of_ble_eq_true rfl)) dX2_blow_36 ⟨Nat.le_refl _, Nat.le_refl _⟩) hP hD hS [15, 16, 17, 18, 19, 10, 11, 12, 13, 14] rfl rfl (fun _ => rfl) (fun u_36 H locs q_36 hP hD hS => ?_)
            try dsimp only at q_36 hP hD
            have hP : va_P D vwCl (wX cI cS ad sh sla sle sf n fo ki st we lo n fo ki st we lo ti rc rv rd tr fa) H := hP
            have hD : va_D (AW (adX ad)) (wX cI cS ad sh sla sle sf n fo ki st we lo n fo ki st we lo ti rc rv rd tr fa) := hD
            refine lv_aload_n hx hb dX2_blow_39 rfl (lv_at hl 1 rfl) ?_
            refine va_get (D := D) (ci := 2) (v := .ref (ad 15)) (C := RX2) (T := TX2) (N := 9) hx hb yX2 (fun _ h => h) hown hG.1 hP 0 rfl rfl 2 (by decide) f24 (fun _ h => h) rfl dX2_blow_40 ?_
            refine lv_iload_n hx hb dX2_blow_43 rfl (lv_at hl 2 rfl) ?_
            refine lv_iload_n hx hb dX2_blow_44 rfl (lv_at hl 0 rfl) ?_
            refine xmu (wc := (wRow cI (ad 15) (ad 16) (ad 17) (ad 18) (ad 19) n fo ki st we lo)) (va_runV (As := [.int (nI w), .int (nI i)]) (rest := []) hF (c_X0_blown l D cI cS (ad 15) (ad 16) (ad 17) (ad 18) (ad 19) n fo ki st we lo w i (hnd.sub [15, 16, 17, 18, 19] (by decide) rfl) (by first | assumption | omega) (by first | assumption | omega) (by first | assumption | exact sea_le hlo | exact blw_le hlo (by omega)) (by first | assumption | omega) (by first | assumption | omega) (by first | assumption | omega)) (cwV 2 hts gX2_blow_X0_blown rfl rfl rfl hV_X0_blown ⟨Nat.le_of_ble_eq_true rfl, Nat.le_of_ble_eq_true rfl⟩) (PR.preV hG (hP.sub (ws' := (wRow cI (ad 15) (ad 16) (ad 17) (ad 18) (ad 19) n fo ki st we lo)) [15, 16, 17, 18, 19] rfl) (ci := 0) rfl rfl) rfl rfl hl.1 rfl (lv_room (Nat.le_of_ble_eq_true rfl)) dX2_blow_45 ⟨Nat.le_refl _, Nat.le_refl _⟩) hP hD hS [15, 16, 17, 18, 19] rfl rfl (fun _ => rfl) (fun r_45 u_45 H locs q_45 hP hD hS => ?_)
            try dsimp only at q_45 hP hD
            have e_45 := q_45
            subst e_45
            have hP : va_P D vwCl (wX cI cS ad sh sla sle sf n fo ki st we lo n fo ki st we (blwL n fo we lo w i) ti rc rv rd tr fa) H := hP
            have hD : va_D (AW (adX ad)) (wX cI cS ad sh sla sle sf n fo ki st we lo n fo ki st we (blwL n fo we lo w i) ti rc rv rd tr fa) := hD
            refine lv_pop hx hb dX2_blow_48 rfl ?_
            refine lv_aload_n hx hb dX2_blow_49 rfl (lv_at hl 1 rfl) ?_
            refine va_get (D := D) (ci := 2) (v := .ref (ad 15)) (C := RX2) (T := TX2) (N := 9) hx hb yX2 (fun _ h => h) hown hG.1 hP 0 rfl rfl 2 (by decide) f24 (fun _ h => h) rfl dX2_blow_50 ?_
            refine xrd (va_runV (As := []) (rest := []) hF (c_X0_isCarried l D cI cS (ad 15) (ad 16) (ad 17) (ad 18) (ad 19) n fo ki st we (blwL n fo we lo w i) (by first | assumption | omega) (by first | assumption | omega) (by first | assumption | omega) (by first | assumption | omega) (by first | assumption | omega) (by first | assumption | exact sea_le hlo | exact blw_le hlo (by omega))) (cwV 0 hts gX2_blow_X0_isCarried rfl rfl rfl hV_X0_isCarried ⟨Nat.le_of_ble_eq_true rfl, Nat.le_of_ble_eq_true rfl⟩) (PR.preV hG (hP.sub (ws' := (wRow cI (ad 15) (ad 16) (ad 17) (ad 18) (ad 19) n fo ki st we (blwL n fo we lo w i))) [15, 16, 17, 18, 19] rfl) (ci := 0) rfl rfl) rfl rfl hl.1 rfl (lv_room (Nat.le_of_ble_eq_true rfl)) dX2_blow_53 ⟨Nat.le_refl _, Nat.le_refl _⟩) ?_
            refine lv_if_eq (tgt := 61) hx hb dX2_blow_56 (by decide) (fun c_56 => ?_) (fun c_56 => ?_)
            ·
              replace c_56 := bI_0.mp c_56
              replace c_56 := of_decide_eq_false c_56
              refine lv_iinc (v := nI (i + 1)) (lv' := [(2, .int (nI (i + 1))), (0, .ref (ad 0)), (1, .int (nI w))]) hx hb dX2_blow_61 hl (k := 0) rfl xinc1 (by decide) rfl (fun ls hl => ?_)
              refine lv_goto (tgt := 22) hx hb dX2_blow_64 (by decide) ?_
              exact ih (i + 1) n fo ki st we (blwL n fo we lo w i)  (by omega) (by intro v hv; rcases Nat.lt_succ_iff_lt_or_eq.mp hv with h9 | rfl; exact hno v h9; exact decide_eq_false c_56) (by omega) _ _ hP hD hS ls (lv_sub hl [0, 1, 2] rfl)
            ·
              replace c_56 := bI_n0.mp c_56
              replace c_56 := of_decide_eq_true c_56
              refine lv_iload_n hx hb dX2_blow_59 rfl (lv_at hl 0 rfl) ?_
              exact xretM hx hb hr hlk dX2_blow_60 hS ⟨n, fo, ki, st, we, blwL n fo we lo w i⟩ (by have e9 := firstV_some hno (show blP n fo ki st we lo w i = true from decide_eq_true c_56) (m := 11) (by omega); simp [A_blow, c_4, hn0, c_14, hclw, c_25, c_56, e9, optI]) (fun t ht => by rw [ht]; exact hP)
      exact K22 _ 0 n2 go kj sj wj lj  (by first | omega | (intro v hv; omega)) (by first | omega | (intro v hv; omega)) (Nat.lt_succ_self _) _ _ hP hD hS ls (lv_sub hl [0, 1, 2] rfl)
    ·
      replace c_14 := bI_0.mp c_14
      refine lv_bipush (v := (-2)) hx hb dX2_blow_17 (by decide) ?_
      exact xretM hx hb hr hlk dX2_blow_19 hS ⟨n2, go, kj, sj, wj, lj⟩ (by simp [A_blow, c_4, hn0, c_14]) (fun t ht => by rw [ht]; exact hP)
  ·
    replace c_4 := bI_0.mp c_4
    replace c_4 := of_decide_eq_false c_4
    have hn0 : n = 0 := by omega
    refine lv_bipush (v := (-3)) hx hb dX2_blow_7 (by decide) ?_
    exact xretM hx hb hr hlk dX2_blow_9 hS ⟨n2, go, kj, sj, wj, lj⟩ (by simp [A_blow, c_4, hn0]) (fun t ht => by rw [ht]; exact hP)

set_option maxHeartbeats 4000000 in
set_option maxRecDepth 100000 in
theorem c_X2_allReadingsAreSo (l : Launch) (D : va_G) (cI cS : ClassId) (ad : Nat → Nat) (sh : Nat → Bool) (sla : Nat → Nat) (sle : Nat → Nat) (sf : Nat → Nat → Int32) (n : Nat) (fo : Nat) (ki : Nat → Nat) (st : Nat → Nat) (we : Nat → Nat) (lo : Nat → Nat) (n2 : Nat) (go : Nat) (kj : Nat → Nat) (sj : Nat → Nat) (wj : Nat → Nat) (lj : Nat → Nat) (ti : Nat → Int32) (rc : Nat → Nat) (rv : Nat → Nat) (rd : Nat) (tr : Int32) (fa : Nat) (j : Nat) (kd : Nat) (w : Nat) (hn : n ≤ 8) (hki : ∀ j, ki j ≤ 2) (hwe : ∀ j, we j ≤ 9) (hrd : rd ≤ 8) (hrc : ∀ r, r < rd → rc r < n) (hrv : ∀ j, rv j ≤ 10) (hj : j < 8) (hk : kd ≤ 2) (hw : w ≤ 9) : Met l yX2_allReadingsAreSo wsX2_allReadingsAreSo ({ frames := 2, cells := 0, slots := 0, locals := 42 }) (PR D cI cS [.ref (ad 0), .int (nI j), .int (nI kd), .int (nI w)] (wX cI cS ad sh sla sle sf n fo ki st we lo n2 go kj sj wj lj ti rc rv rd tr fa)) (vp_Si (fun r => r = bI (asoB rd rc rv ki we j kd w))) 0 0 (fun _ => False) := by
  refine startR (by decide) rfl (Nat.le_of_ble_eq_true rfl) ?_
  intro p e s m below meth c hx hb hr hts hown hlk hml hG hP ls hl
  have hl : lv_has ls 7 [(0, .ref (ad 0)), (1, .int (nI j)), (2, .int (nI kd)), (3, .int (nI w))] := hl
  have f37 := hts (.fieldLink RX2 37 "ChairBallot" "readings" "I") (by decide +kernel)
  have f31 := hts (.fieldLink RX2 31 "ChairBallot" "readChair" "[I") (by decide +kernel)
  have f20 := hts (.fieldLink RX2 20 "ChairBallot" "now" "LChairBallot$Row;") (by decide +kernel)
  have f34 := hts (.fieldLink RX2 34 "ChairBallot" "readVotes" "[I") (by decide +kernel)
  have yX2 : ∀ w ∈ u_ws RX2 TX2 9, w.before _ s = true := fun w h => hts w ((by decide +kernel : ∀ w ∈ wsX20, w ∈ wsX2_allReadingsAreSo) w h)
  have hF : CallFix p m c cX2_allReadingsAreSo 7 s _ wsX2_allReadingsAreSo RX2 := ⟨hx, hb, hml, hown, hts⟩
  refine lv_iconst (v := nI 0) hx hb dX2_allReadingsAreSo_0 (by decide) ?_
  refine lv_istore (lv' := [(4, .int (nI 0)), (0, .ref (ad 0)), (1, .int (nI j)), (2, .int (nI kd)), (3, .int (nI w))]) hx hb dX2_allReadingsAreSo_1 hl (by decide) rfl (fun ls hl => ?_)
  have K3 : ∀ (fuel : Nat) (i : Nat), (i ≤ rd) → (∀ r, r < i → isSo rc rv ki we j kd w r = true) → (rd - i) < fuel → ∀ ls : Array Slot, lv_has ls 7 [(4, .int (nI i)), (0, .ref (ad 0)), (1, .int (nI j)), (2, .int (nI kd)), (3, .int (nI w))] → W p l e ({ frames := 2, cells := 0, slots := 0, locals := 42 }) s m (([.ref (ad 0), .int (nI j), .int (nI kd), .int (nI w)] : List Value).toArray) below meth c s.heap [] 0 0 (MQ below (vp_Si (fun r => r = bI (asoB rd rc rv ki we j kd w))) (([.ref (ad 0), .int (nI j), .int (nI kd), .int (nI w)] : List Value).toArray) s 0 0 (fun _ => False)) (F0 m 3 ls []) := by
    intro fuel
    induction fuel with
    | zero => intro i hi hso hmu; exact absurd hmu (Nat.not_lt_zero _)
    | succ fuel ih =>
      intro i hi hso hmu ls hl
      refine lv_iload hx hb dX2_allReadingsAreSo_3 (lv_at hl 0 rfl) ?_
      refine lv_aload_n hx hb dX2_allReadingsAreSo_5 rfl (lv_at hl 1 rfl) ?_
      refine va_get (D := D) (ci := 2) (v := .int (nI rd)) (C := RX2) (T := TX2) (N := 9) hx hb yX2 (fun _ h => h) hown hG.1 hP 0 rfl rfl 6 (by decide) f37 (fun _ h => h) rfl dX2_allReadingsAreSo_6 ?_
      refine lv_icmp_ge (tgt := 66) hx hb dX2_allReadingsAreSo_9 (by decide) (fun c_9 => ?_) (fun c_9 => ?_)
      ·
        replace c_9 := (nI_leI (a := rd) (b := i) (by omega) (by omega)).mp c_9
        have hin : rd = i := by omega
        subst hin
        refine lv_iconst (v := nI 1) hx hb dX2_allReadingsAreSo_66 (by decide) ?_
        exact xretRz hx hb hr hlk dX2_allReadingsAreSo_67 (true) rfl (by rw [show asoB rd rc rv ki we j kd w = true from allB_t hso]; rfl)
      ·
        replace c_9 := (not_congr (nI_leI (a := rd) (b := i) (by omega) (by omega))).mp c_9
        have hri := hrc i (by omega)
        have hvi := hrv i
        have hv1 := vtA_le (k := kd) hw
        have hv2 := vtA_le (k := ki (rc i)) (hwe (rc i))
        refine lv_aload_n hx hb dX2_allReadingsAreSo_12 rfl (lv_at hl 1 rfl) ?_
        refine va_get (D := D) (ci := 2) (v := .ref (ad 21)) (C := RX2) (T := TX2) (N := 9) hx hb yX2 (fun _ h => h) hown hG.1 hP 0 rfl rfl 4 (by decide) f31 (fun _ h => h) rfl dX2_allReadingsAreSo_13 ?_
        refine lv_iload hx hb dX2_allReadingsAreSo_16 (lv_at hl 0 rfl) ?_
        refine xaldN hx hb hG hP 21 rfl (i) rfl (by omega) (by decide) dX2_allReadingsAreSo_18 ?_
        refine lv_istore (lv' := [(5, .int (nI (rc i))), (4, .int (nI i)), (0, .ref (ad 0)), (1, .int (nI j)), (2, .int (nI kd)), (3, .int (nI w))]) hx hb dX2_allReadingsAreSo_19 hl (by decide) rfl (fun ls hl => ?_)
        refine lv_iload hx hb dX2_allReadingsAreSo_21 (lv_at hl 0 rfl) ?_
        refine lv_iload_n hx hb dX2_allReadingsAreSo_23 rfl (lv_at hl 3 rfl) ?_
        refine lv_icmp_ne (tgt := 35) hx hb dX2_allReadingsAreSo_24 (by decide) (fun c_24 => ?_) (fun c_24 => ?_)
        ·
          replace c_24 := (not_congr (nI_eq (a := rc i) (b := j) (by omega) (by omega))).mp c_24
          refine lv_aload_n hx hb dX2_allReadingsAreSo_35 rfl (lv_at hl 2 rfl) ?_
          refine va_get (D := D) (ci := 2) (v := .ref (ad 10)) (C := RX2) (T := TX2) (N := 9) hx hb yX2 (fun _ h => h) hown hG.1 hP 0 rfl rfl 1 (by decide) f20 (fun _ h => h) rfl dX2_allReadingsAreSo_36 ?_
          refine lv_iload hx hb dX2_allReadingsAreSo_39 (lv_at hl 0 rfl) ?_
          refine xrd (va_runV (As := [.int (nI (rc i))]) (rest := []) hF (c_X0_votesWhenOpen l D cI cS (ad 10) (ad 11) (ad 12) (ad 13) (ad 14) n fo ki st we lo (rc i) (by first | assumption | omega) (by first | assumption | omega) (by first | assumption | omega) (by first | assumption | omega)) (cwV 1 hts gX2_allReadingsAreSo_X0_votesWhenOpen rfl rfl rfl hV_X0_votesWhenOpen ⟨Nat.le_of_ble_eq_true rfl, Nat.le_of_ble_eq_true rfl⟩) (PR.preV hG (hP.sub (ws' := (wRow cI (ad 10) (ad 11) (ad 12) (ad 13) (ad 14) n fo ki st we lo)) [10, 11, 12, 13, 14] rfl) (ci := 0) rfl rfl) rfl rfl hl.1 rfl (lv_room (Nat.le_of_ble_eq_true rfl)) dX2_allReadingsAreSo_41 ⟨Nat.le_refl _, Nat.le_refl _⟩) ?_
          refine lv_istore (lv' := [(6, .int (nI (vtA (ki (rc i)) (we (rc i))))), (5, .int (nI (rc i))), (4, .int (nI i)), (0, .ref (ad 0)), (1, .int (nI j)), (2, .int (nI kd)), (3, .int (nI w))]) hx hb dX2_allReadingsAreSo_44 hl (by decide) rfl (fun ls hl => ?_)
          refine lv_iload hx hb dX2_allReadingsAreSo_46 (lv_at hl 0 rfl) ?_
          refine lv_aload_n hx hb dX2_allReadingsAreSo_48 rfl (lv_at hl 3 rfl) ?_
          refine va_get (D := D) (ci := 2) (v := .ref (ad 22)) (C := RX2) (T := TX2) (N := 9) hx hb yX2 (fun _ h => h) hown hG.1 hP 0 rfl rfl 5 (by decide) f34 (fun _ h => h) rfl dX2_allReadingsAreSo_49 ?_
          refine lv_iload hx hb dX2_allReadingsAreSo_52 (lv_at hl 2 rfl) ?_
          refine xaldN hx hb hG hP 22 rfl (i) rfl (by omega) (by decide) dX2_allReadingsAreSo_54 ?_
          refine lv_icmp_eq (tgt := 60) hx hb dX2_allReadingsAreSo_55 (by decide) (fun c_55 => ?_) (fun c_55 => ?_)
          ·
            replace c_55 := (nI_eq (a := vtA (ki (rc i)) (we (rc i))) (b := rv i) (by omega) (by omega)).mp c_55
            refine lv_iinc (v := nI (i + 1)) (lv' := [(4, .int (nI (i + 1))), (6, .int (nI (vtA (ki (rc i)) (we (rc i))))), (5, .int (nI (rc i))), (0, .ref (ad 0)), (1, .int (nI j)), (2, .int (nI kd)), (3, .int (nI w))]) hx hb dX2_allReadingsAreSo_60 hl (k := 2) rfl xinc1 (by decide) rfl (fun ls hl => ?_)
            refine lv_goto (tgt := 3) hx hb dX2_allReadingsAreSo_63 (by decide) ?_
            exact ih (i + 1)  (by omega) (by intro v hv; rcases Nat.lt_succ_iff_lt_or_eq.mp hv with h9 | rfl; exact hso v h9; simp [isSo, c_9, c_24, c_55]) (by omega) ls (lv_sub hl [0, 3, 4, 5, 6] rfl)
          ·
            replace c_55 := (not_congr (nI_eq (a := vtA (ki (rc i)) (we (rc i))) (b := rv i) (by omega) (by omega))).mp c_55
            refine lv_iconst (v := nI 0) hx hb dX2_allReadingsAreSo_58 (by decide) ?_
            exact xretRz hx hb hr hlk dX2_allReadingsAreSo_59 (false) rfl (by rw [show asoB rd rc rv ki we j kd w = false from allB_f (i := i) (by simp [isSo, c_9, c_24, c_55]) (by omega)]; rfl)
        ·
          replace c_24 := (nI_eq (a := rc i) (b := j) (by omega) (by omega)).mp c_24
          refine lv_iload_n hx hb dX2_allReadingsAreSo_27 rfl (lv_at hl 4 rfl) ?_
          refine lv_iload_n hx hb dX2_allReadingsAreSo_28 rfl (lv_at hl 5 rfl) ?_
          refine xrd (va_runS (As := [.int (nI kd), .int (nI w)]) (rest := []) hF (c_X2_votesAs l D cI cS kd w (by first | assumption | omega) (by first | assumption | omega)) (va_cwS 2 hts gX2_allReadingsAreSo_X2_votesAs rfl rfl rfl hD_X2_votesAs ⟨Nat.le_of_ble_eq_true rfl, Nat.le_of_ble_eq_true rfl⟩) (PR.pre hG (hP.sub (ws' := []) [] rfl)) rfl rfl hl.1 rfl (lv_room (Nat.le_of_ble_eq_true rfl)) dX2_allReadingsAreSo_29 ⟨Nat.le_refl _, Nat.le_refl _⟩) ?_
          refine lv_goto (tgt := 44) hx hb dX2_allReadingsAreSo_32 (by decide) ?_
          refine lv_istore (lv' := [(6, .int (nI (vtA kd w))), (5, .int (nI (rc i))), (4, .int (nI i)), (0, .ref (ad 0)), (1, .int (nI j)), (2, .int (nI kd)), (3, .int (nI w))]) hx hb dX2_allReadingsAreSo_44 hl (by decide) rfl (fun ls hl => ?_)
          refine lv_iload hx hb dX2_allReadingsAreSo_46 (lv_at hl 0 rfl) ?_
          refine lv_aload_n hx hb dX2_allReadingsAreSo_48 rfl (lv_at hl 3 rfl) ?_
          refine va_get (D := D) (ci := 2) (v := .ref (ad 22)) (C := RX2) (T := TX2) (N := 9) hx hb yX2 (fun _ h => h) hown hG.1 hP 0 rfl rfl 5 (by decide) f34 (fun _ h => h) rfl dX2_allReadingsAreSo_49 ?_
          refine lv_iload hx hb dX2_allReadingsAreSo_52 (lv_at hl 2 rfl) ?_
          refine xaldN hx hb hG hP 22 rfl (i) rfl (by omega) (by decide) dX2_allReadingsAreSo_54 ?_
          refine lv_icmp_eq (tgt := 60) hx hb dX2_allReadingsAreSo_55 (by decide) (fun c_55 => ?_) (fun c_55 => ?_)
          ·
            replace c_55 := (nI_eq (a := vtA kd w) (b := rv i) (by omega) (by omega)).mp c_55
            refine lv_iinc (v := nI (i + 1)) (lv' := [(4, .int (nI (i + 1))), (6, .int (nI (vtA kd w))), (5, .int (nI (rc i))), (0, .ref (ad 0)), (1, .int (nI j)), (2, .int (nI kd)), (3, .int (nI w))]) hx hb dX2_allReadingsAreSo_60 hl (k := 2) rfl xinc1 (by decide) rfl (fun ls hl => ?_)
            refine lv_goto (tgt := 3) hx hb dX2_allReadingsAreSo_63 (by decide) ?_
            exact ih (i + 1)  (by omega) (by intro v hv; rcases Nat.lt_succ_iff_lt_or_eq.mp hv with h9 | rfl; exact hso v h9; simp [isSo, c_9, c_24, c_55]) (by omega) ls (lv_sub hl [0, 3, 4, 5, 6] rfl)
          ·
            replace c_55 := (not_congr (nI_eq (a := vtA kd w) (b := rv i) (by omega) (by omega))).mp c_55
            refine lv_iconst (v := nI 0) hx hb dX2_allReadingsAreSo_58 (by decide) ?_
            exact xretRz hx hb hr hlk dX2_allReadingsAreSo_59 (false) rfl (by rw [show asoB rd rc rv ki we j kd w = false from allB_f (i := i) (by simp [isSo, c_9, c_24, c_55]) (by omega)]; rfl)
  exact K3 _ 0  (by first | omega | (intro v hv; omega)) (by first | omega | (intro v hv; omega)) (Nat.lt_succ_self _) ls (lv_sub hl [0, 1, 2, 3, 4] rfl)

set_option maxHeartbeats 4000000 in
set_option maxRecDepth 100000 in
theorem c_X2_weights (l : Launch) (D : va_G) (cI cS : ClassId) (ad : Nat → Nat) (sh : Nat → Bool) (sla : Nat → Nat) (sle : Nat → Nat) (sf : Nat → Nat → Int32) (n : Nat) (fo : Nat) (ki : Nat → Nat) (st : Nat → Nat) (we : Nat → Nat) (lo : Nat → Nat) (n2 : Nat) (go : Nat) (kj : Nat → Nat) (sj : Nat → Nat) (wj : Nat → Nat) (lj : Nat → Nat) (ti : Nat → Int32) (rc : Nat → Nat) (rv : Nat → Nat) (rd : Nat) (tr : Int32) (fa : Nat) (k : Int32) (hn : n ≤ 8) (hki : ∀ j, ki j ≤ 2) (hwe : ∀ j, we j ≤ 9) (hrd : rd ≤ 8) (hrc : ∀ r, r < rd → rc r < n) (hrv : ∀ j, rv j ≤ 10) : Met l yX2_weights wsX2_weights ({ frames := 3, cells := 0, slots := 0, locals := 68 }) (PR D cI cS [.ref (ad 0), .int k] (wX cI cS ad sh sla sle sf n fo ki st we lo n2 go kj sj wj lj ti rc rv rd tr fa)) (vp_Si (fun r => r = A_weights n rd rc rv ki we k)) 0 0 (fun _ => False) := by
  refine startR (by decide) rfl (Nat.le_of_ble_eq_true rfl) ?_
  intro p e s m below meth c hx hb hr hts hown hlk hml hG hP ls hl
  have hl : lv_has ls 4 [(0, .ref (ad 0)), (1, .int k)] := hl
  have f20 := hts (.fieldLink RX2 20 "ChairBallot" "now" "LChairBallot$Row;") (by decide +kernel)
  have f81 := hts (.fieldLink RX2 81 "ChairBallot$Row" "kind" "[I") (by decide +kernel)
  have yX0 : ∀ w ∈ u_ws RX0 TX0 6, w.before _ s = true := fun w h => hts w ((by decide +kernel : ∀ w ∈ wsX00, w ∈ wsX2_weights) w h)
  have yX2 : ∀ w ∈ u_ws RX2 TX2 9, w.before _ s = true := fun w h => hts w ((by decide +kernel : ∀ w ∈ wsX20, w ∈ wsX2_weights) w h)
  have hF : CallFix p m c cX2_weights 4 s _ wsX2_weights RX2 := ⟨hx, hb, hml, hown, hts⟩
  refine lv_aload_n hx hb dX2_weights_0 rfl (lv_at hl 0 rfl) ?_
  refine va_get (D := D) (ci := 2) (v := .ref (ad 10)) (C := RX2) (T := TX2) (N := 9) hx hb yX2 (fun _ h => h) hown hG.1 hP 0 rfl rfl 1 (by decide) f20 (fun _ h => h) rfl dX2_weights_1 ?_
  refine lv_iload_n hx hb dX2_weights_4 rfl (lv_at hl 1 rfl) ?_
  refine xrd (va_runV (As := [.int k]) (rest := []) hF (c_X0_has l D cI cS (ad 10) (ad 11) (ad 12) (ad 13) (ad 14) n fo ki st we lo k (by first | assumption | omega)) (cwV 1 hts gX2_weights_X0_has rfl rfl rfl hV_X0_has ⟨Nat.le_of_ble_eq_true rfl, Nat.le_of_ble_eq_true rfl⟩) (PR.preV hG (hP.sub (ws' := (wRow cI (ad 10) (ad 11) (ad 12) (ad 13) (ad 14) n fo ki st we lo)) [10, 11, 12, 13, 14] rfl) (ci := 0) rfl rfl) rfl rfl hl.1 rfl (lv_room (Nat.le_of_ble_eq_true rfl)) dX2_weights_5 ⟨Nat.le_refl _, Nat.le_refl _⟩) ?_
  refine lv_if_ne (tgt := 13) hx hb dX2_weights_8 (by decide) (fun c_8 => ?_) (fun c_8 => ?_)
  ·
    replace c_8 := bI_n0.mp c_8
    obtain ⟨j, hj, rfl⟩ := hasB_t c_8
    have hclj := cl8 (j := j) (by omega)
    have hkj := hki j
    refine lv_iconst (v := nI 0) hx hb dX2_weights_13 (by decide) ?_
    refine lv_istore_n (lv' := [(2, .int (nI 0)), (0, .ref (ad 0)), (1, .int (nI j))]) hx hb dX2_weights_14 rfl hl (by decide) rfl (fun ls hl => ?_)
    refine lv_iconst (v := nI 1) hx hb dX2_weights_15 (by decide) ?_
    refine lv_istore_n (lv' := [(3, .int (nI 1)), (2, .int (nI 0)), (0, .ref (ad 0)), (1, .int (nI j))]) hx hb dX2_weights_16 rfl hl (by decide) rfl (fun ls hl => ?_)
    have K17 : ∀ (fuel : Nat) (i : Nat) (x2 : Int32), x2 = nI (setN (fun v => decide (1 ≤ v) && asoB rd rc rv ki we j (ki j) v) i) → (1 ≤ i) → (i ≤ 10) → (10 - i) < fuel → ∀ ls : Array Slot, lv_has ls 4 [(3, .int (nI i)), (2, .int x2), (0, .ref (ad 0)), (1, .int (nI j))] → W p l e ({ frames := 3, cells := 0, slots := 0, locals := 68 }) s m (([.ref (ad 0), .int (nI j)] : List Value).toArray) below meth c s.heap [] 0 0 (MQ below (vp_Si (fun r => r = A_weights n rd rc rv ki we (nI j))) (([.ref (ad 0), .int (nI j)] : List Value).toArray) s 0 0 (fun _ => False)) (F0 m 17 ls []) := by
      intro fuel
      induction fuel with
      | zero => intro i x2 e_x2 hi1 hi hmu; exact absurd hmu (Nat.not_lt_zero _)
      | succ fuel ih =>
        intro i x2 e_x2 hi1 hi hmu ls hl
        subst e_x2
        refine lv_iload_n hx hb dX2_weights_17 rfl (lv_at hl 0 rfl) ?_
        refine lv_bipush (v := nI 9) hx hb dX2_weights_18 (by decide) ?_
        refine lv_icmp_gt (tgt := 53) hx hb dX2_weights_20 (by decide) (fun c_20 => ?_) (fun c_20 => ?_)
        ·
          replace c_20 := (nI_ltI (a := 9) (b := i) (by omega) (by omega)).mp c_20
          have hin : 10 = i := by omega
          subst hin
          refine lv_iload_n hx hb dX2_weights_53 rfl (lv_at hl 1 rfl) ?_
          exact xretR hx hb hr hlk dX2_weights_54 (by simp [A_weights, c_8, hclj, c_20])
        ·
          replace c_20 := (not_congr (nI_ltI (a := 9) (b := i) (by omega) (by omega))).mp c_20
          refine lv_aload_n hx hb dX2_weights_23 rfl (lv_at hl 2 rfl) ?_
          refine lv_iload_n hx hb dX2_weights_24 rfl (lv_at hl 3 rfl) ?_
          refine lv_aload_n hx hb dX2_weights_25 rfl (lv_at hl 2 rfl) ?_
          refine va_get (D := D) (ci := 2) (v := .ref (ad 10)) (C := RX2) (T := TX2) (N := 9) hx hb yX2 (fun _ h => h) hown hG.1 hP 0 rfl rfl 1 (by decide) f20 (fun _ h => h) rfl dX2_weights_26 ?_
          refine va_get (D := D) (ci := 0) (v := .ref (ad 11)) (C := RX0) (T := TX0) (N := 6) hx hb yX0 (fun _ h => h) hown hG.1 hP 10 rfl rfl 0 (by decide) f81 (fun _ h => h) rfl dX2_weights_29 ?_
          refine lv_iload_n hx hb dX2_weights_32 rfl (lv_at hl 3 rfl) ?_
          refine xaldN hx hb hG hP 11 rfl (j) rfl (by omega) (by decide) dX2_weights_33 ?_
          refine lv_iload_n hx hb dX2_weights_34 rfl (lv_at hl 0 rfl) ?_
          refine xrd (va_runV (As := [.int (nI j), .int (nI (ki j)), .int (nI i)]) (rest := []) hF (c_X2_allReadingsAreSo l D cI cS ad sh sla sle sf n fo ki st we lo n2 go kj sj wj lj ti rc rv rd tr fa j (ki j) i (by first | assumption | omega) (by first | assumption | omega) (by first | assumption | omega) (by first | assumption | omega) (by first | assumption | omega) (by first | assumption | omega) (by first | assumption | omega) (by first | assumption | omega) (by first | assumption | omega)) (cwV 3 hts gX2_weights_X2_allReadingsAreSo rfl rfl rfl hV_X2_allReadingsAreSo ⟨Nat.le_of_ble_eq_true rfl, Nat.le_of_ble_eq_true rfl⟩) (PR.preV hG hP (ci := 2) rfl rfl) rfl rfl hl.1 rfl (lv_room (Nat.le_of_ble_eq_true rfl)) dX2_weights_35 ⟨Nat.le_refl _, Nat.le_refl _⟩) ?_
          refine lv_if_eq (tgt := 47) hx hb dX2_weights_38 (by decide) (fun c_38 => ?_) (fun c_38 => ?_)
          ·
            replace c_38 := bI_0.mp c_38
            refine lv_iinc (v := nI (i + 1)) (lv' := [(3, .int (nI (i + 1))), (2, .int (nI (setN (fun v => decide (1 ≤ v) && asoB rd rc rv ki we j (ki j) v) i))), (0, .ref (ad 0)), (1, .int (nI j))]) hx hb dX2_weights_47 hl (k := 0) rfl xinc1 (by decide) rfl (fun ls hl => ?_)
            refine lv_goto (tgt := 17) hx hb dX2_weights_50 (by decide) ?_
            exact ih (i + 1) (nI (setN (fun v => decide (1 ≤ v) && asoB rd rc rv ki we j (ki j) v) i)) (by simp [setN, hi1, c_8, hclj, c_20, c_38]) (by omega) (by omega) (by omega) ls (lv_sub hl [0, 1, 2, 3] rfl)
          ·
            replace c_38 := bI_n0.mp c_38
            refine lv_iload_n hx hb dX2_weights_41 rfl (lv_at hl 1 rfl) ?_
            refine lv_iconst (v := nI 1) hx hb dX2_weights_42 (by decide) ?_
            refine lv_iload_n hx hb dX2_weights_43 rfl (lv_at hl 0 rfl) ?_
            refine lv_ishl hx hb dX2_weights_44 ?_
            refine xtop (x' := nI (2 ^ i)) (by exact shl1 i (by omega)) ?_
            refine lv_ior hx hb dX2_weights_45 ?_
            refine xtop (x' := nI (setN (fun v => decide (1 ≤ v) && asoB rd rc rv ki we j (ki j) v) i ||| 2 ^ i)) (by exact nI_or _ _) ?_
            refine lv_istore_n (lv' := [(2, .int (nI (setN (fun v => decide (1 ≤ v) && asoB rd rc rv ki we j (ki j) v) i ||| 2 ^ i))), (3, .int (nI i)), (0, .ref (ad 0)), (1, .int (nI j))]) hx hb dX2_weights_46 rfl hl (by decide) rfl (fun ls hl => ?_)
            refine lv_iinc (v := nI (i + 1)) (lv' := [(3, .int (nI (i + 1))), (2, .int (nI (setN (fun v => decide (1 ≤ v) && asoB rd rc rv ki we j (ki j) v) i ||| 2 ^ i))), (0, .ref (ad 0)), (1, .int (nI j))]) hx hb dX2_weights_47 hl (k := 1) rfl xinc1 (by decide) rfl (fun ls hl => ?_)
            refine lv_goto (tgt := 17) hx hb dX2_weights_50 (by decide) ?_
            exact ih (i + 1) (nI (setN (fun v => decide (1 ≤ v) && asoB rd rc rv ki we j (ki j) v) i ||| 2 ^ i)) (by simp [setN, hi1, c_8, hclj, c_20, c_38]) (by omega) (by omega) (by omega) ls (lv_sub hl [0, 1, 2, 3] rfl)
    exact K17 _ 1 (nI 0) (by first | omega | (simp [setN])) (by first | omega | (simp [setN])) (by first | omega | (simp [setN])) (Nat.lt_succ_self _) ls (lv_sub hl [0, 1, 2, 3] rfl)
  ·
    replace c_8 := bI_0.mp c_8
    refine lv_iconst (v := (-1)) hx hb dX2_weights_11 (by decide) ?_
    exact xretR hx hb hr hlk dX2_weights_12 (by simp [A_weights, c_8])

set_option maxHeartbeats 4000000 in
set_option maxRecDepth 100000 in
theorem c_X2_kinds (l : Launch) (D : va_G) (cI cS : ClassId) (ad : Nat → Nat) (sh : Nat → Bool) (sla : Nat → Nat) (sle : Nat → Nat) (sf : Nat → Nat → Int32) (n : Nat) (fo : Nat) (ki : Nat → Nat) (st : Nat → Nat) (we : Nat → Nat) (lo : Nat → Nat) (n2 : Nat) (go : Nat) (kj : Nat → Nat) (sj : Nat → Nat) (wj : Nat → Nat) (lj : Nat → Nat) (ti : Nat → Int32) (rc : Nat → Nat) (rv : Nat → Nat) (rd : Nat) (tr : Int32) (fa : Nat) (k : Int32) (hn : n ≤ 8) (hki : ∀ j, ki j ≤ 2) (hwe : ∀ j, we j ≤ 9) (hrd : rd ≤ 8) (hrc : ∀ r, r < rd → rc r < n) (hrv : ∀ j, rv j ≤ 10) : Met l yX2_kinds wsX2_kinds ({ frames := 3, cells := 0, slots := 0, locals := 68 }) (PR D cI cS [.ref (ad 0), .int k] (wX cI cS ad sh sla sle sf n fo ki st we lo n2 go kj sj wj lj ti rc rv rd tr fa)) (vp_Si (fun r => r = A_kinds n rd rc rv ki we k)) 0 0 (fun _ => False) := by
  refine startR (by decide) rfl (Nat.le_of_ble_eq_true rfl) ?_
  intro p e s m below meth c hx hb hr hts hown hlk hml hG hP ls hl
  have hl : lv_has ls 4 [(0, .ref (ad 0)), (1, .int k)] := hl
  have f20 := hts (.fieldLink RX2 20 "ChairBallot" "now" "LChairBallot$Row;") (by decide +kernel)
  have f87 := hts (.fieldLink RX2 87 "ChairBallot$Row" "weight" "[I") (by decide +kernel)
  have yX0 : ∀ w ∈ u_ws RX0 TX0 6, w.before _ s = true := fun w h => hts w ((by decide +kernel : ∀ w ∈ wsX00, w ∈ wsX2_kinds) w h)
  have yX2 : ∀ w ∈ u_ws RX2 TX2 9, w.before _ s = true := fun w h => hts w ((by decide +kernel : ∀ w ∈ wsX20, w ∈ wsX2_kinds) w h)
  have hF : CallFix p m c cX2_kinds 4 s _ wsX2_kinds RX2 := ⟨hx, hb, hml, hown, hts⟩
  refine lv_aload_n hx hb dX2_kinds_0 rfl (lv_at hl 0 rfl) ?_
  refine va_get (D := D) (ci := 2) (v := .ref (ad 10)) (C := RX2) (T := TX2) (N := 9) hx hb yX2 (fun _ h => h) hown hG.1 hP 0 rfl rfl 1 (by decide) f20 (fun _ h => h) rfl dX2_kinds_1 ?_
  refine lv_iload_n hx hb dX2_kinds_4 rfl (lv_at hl 1 rfl) ?_
  refine xrd (va_runV (As := [.int k]) (rest := []) hF (c_X0_has l D cI cS (ad 10) (ad 11) (ad 12) (ad 13) (ad 14) n fo ki st we lo k (by first | assumption | omega)) (cwV 1 hts gX2_kinds_X0_has rfl rfl rfl hV_X0_has ⟨Nat.le_of_ble_eq_true rfl, Nat.le_of_ble_eq_true rfl⟩) (PR.preV hG (hP.sub (ws' := (wRow cI (ad 10) (ad 11) (ad 12) (ad 13) (ad 14) n fo ki st we lo)) [10, 11, 12, 13, 14] rfl) (ci := 0) rfl rfl) rfl rfl hl.1 rfl (lv_room (Nat.le_of_ble_eq_true rfl)) dX2_kinds_5 ⟨Nat.le_refl _, Nat.le_refl _⟩) ?_
  refine lv_if_ne (tgt := 13) hx hb dX2_kinds_8 (by decide) (fun c_8 => ?_) (fun c_8 => ?_)
  ·
    replace c_8 := bI_n0.mp c_8
    obtain ⟨j, hj, rfl⟩ := hasB_t c_8
    have hclj := cl8 (j := j) (by omega)
    have hwj := hwe j
    refine lv_iconst (v := nI 0) hx hb dX2_kinds_13 (by decide) ?_
    refine lv_istore_n (lv' := [(2, .int (nI 0)), (0, .ref (ad 0)), (1, .int (nI j))]) hx hb dX2_kinds_14 rfl hl (by decide) rfl (fun ls hl => ?_)
    refine lv_iconst (v := nI 0) hx hb dX2_kinds_15 (by decide) ?_
    refine lv_istore_n (lv' := [(3, .int (nI 0)), (2, .int (nI 0)), (0, .ref (ad 0)), (1, .int (nI j))]) hx hb dX2_kinds_16 rfl hl (by decide) rfl (fun ls hl => ?_)
    have K17 : ∀ (fuel : Nat) (i : Nat) (x2 : Int32), x2 = nI (setN (fun v => asoB rd rc rv ki we j v (we j)) i) → (i ≤ 3) → (3 - i) < fuel → ∀ ls : Array Slot, lv_has ls 4 [(3, .int (nI i)), (2, .int x2), (0, .ref (ad 0)), (1, .int (nI j))] → W p l e ({ frames := 3, cells := 0, slots := 0, locals := 68 }) s m (([.ref (ad 0), .int (nI j)] : List Value).toArray) below meth c s.heap [] 0 0 (MQ below (vp_Si (fun r => r = A_kinds n rd rc rv ki we (nI j))) (([.ref (ad 0), .int (nI j)] : List Value).toArray) s 0 0 (fun _ => False)) (F0 m 17 ls []) := by
      intro fuel
      induction fuel with
      | zero => intro i x2 e_x2 hi hmu; exact absurd hmu (Nat.not_lt_zero _)
      | succ fuel ih =>
        intro i x2 e_x2 hi hmu ls hl
        subst e_x2
        refine lv_iload_n hx hb dX2_kinds_17 rfl (lv_at hl 0 rfl) ?_
        refine lv_iconst (v := nI 2) hx hb dX2_kinds_18 (by decide) ?_
        refine lv_icmp_gt (tgt := 52) hx hb dX2_kinds_19 (by decide) (fun c_19 => ?_) (fun c_19 => ?_)
        ·
          replace c_19 := (nI_ltI (a := 2) (b := i) (by omega) (by omega)).mp c_19
          have hin : 3 = i := by omega
          subst hin
          refine lv_iload_n hx hb dX2_kinds_52 rfl (lv_at hl 1 rfl) ?_
          exact xretR hx hb hr hlk dX2_kinds_53 (by simp [A_kinds, c_8, hclj, c_19])
        ·
          replace c_19 := (not_congr (nI_ltI (a := 2) (b := i) (by omega) (by omega))).mp c_19
          refine lv_aload_n hx hb dX2_kinds_22 rfl (lv_at hl 2 rfl) ?_
          refine lv_iload_n hx hb dX2_kinds_23 rfl (lv_at hl 3 rfl) ?_
          refine lv_iload_n hx hb dX2_kinds_24 rfl (lv_at hl 0 rfl) ?_
          refine lv_aload_n hx hb dX2_kinds_25 rfl (lv_at hl 2 rfl) ?_
          refine va_get (D := D) (ci := 2) (v := .ref (ad 10)) (C := RX2) (T := TX2) (N := 9) hx hb yX2 (fun _ h => h) hown hG.1 hP 0 rfl rfl 1 (by decide) f20 (fun _ h => h) rfl dX2_kinds_26 ?_
          refine va_get (D := D) (ci := 0) (v := .ref (ad 13)) (C := RX0) (T := TX0) (N := 6) hx hb yX0 (fun _ h => h) hown hG.1 hP 10 rfl rfl 2 (by decide) f87 (fun _ h => h) rfl dX2_kinds_29 ?_
          refine lv_iload_n hx hb dX2_kinds_32 rfl (lv_at hl 3 rfl) ?_
          refine xaldN hx hb hG hP 13 rfl (j) rfl (by omega) (by decide) dX2_kinds_33 ?_
          refine xrd (va_runV (As := [.int (nI j), .int (nI i), .int (nI (we j))]) (rest := []) hF (c_X2_allReadingsAreSo l D cI cS ad sh sla sle sf n fo ki st we lo n2 go kj sj wj lj ti rc rv rd tr fa j i (we j) (by first | assumption | omega) (by first | assumption | omega) (by first | assumption | omega) (by first | assumption | omega) (by first | assumption | omega) (by first | assumption | omega) (by first | assumption | omega) (by first | assumption | omega) (by first | assumption | omega)) (cwV 3 hts gX2_kinds_X2_allReadingsAreSo rfl rfl rfl hV_X2_allReadingsAreSo ⟨Nat.le_of_ble_eq_true rfl, Nat.le_of_ble_eq_true rfl⟩) (PR.preV hG hP (ci := 2) rfl rfl) rfl rfl hl.1 rfl (lv_room (Nat.le_of_ble_eq_true rfl)) dX2_kinds_34 ⟨Nat.le_refl _, Nat.le_refl _⟩) ?_
          refine lv_if_eq (tgt := 46) hx hb dX2_kinds_37 (by decide) (fun c_37 => ?_) (fun c_37 => ?_)
          ·
            replace c_37 := bI_0.mp c_37
            refine lv_iinc (v := nI (i + 1)) (lv' := [(3, .int (nI (i + 1))), (2, .int (nI (setN (fun v => asoB rd rc rv ki we j v (we j)) i))), (0, .ref (ad 0)), (1, .int (nI j))]) hx hb dX2_kinds_46 hl (k := 0) rfl xinc1 (by decide) rfl (fun ls hl => ?_)
            refine lv_goto (tgt := 17) hx hb dX2_kinds_49 (by decide) ?_
            exact ih (i + 1) (nI (setN (fun v => asoB rd rc rv ki we j v (we j)) i)) (by simp [setN, c_8, hclj, c_19, c_37]) (by omega) (by omega) ls (lv_sub hl [0, 1, 2, 3] rfl)
          ·
            replace c_37 := bI_n0.mp c_37
            refine lv_iload_n hx hb dX2_kinds_40 rfl (lv_at hl 1 rfl) ?_
            refine lv_iconst (v := nI 1) hx hb dX2_kinds_41 (by decide) ?_
            refine lv_iload_n hx hb dX2_kinds_42 rfl (lv_at hl 0 rfl) ?_
            refine lv_ishl hx hb dX2_kinds_43 ?_
            refine xtop (x' := nI (2 ^ i)) (by exact shl1 i (by omega)) ?_
            refine lv_ior hx hb dX2_kinds_44 ?_
            refine xtop (x' := nI (setN (fun v => asoB rd rc rv ki we j v (we j)) i ||| 2 ^ i)) (by exact nI_or _ _) ?_
            refine lv_istore_n (lv' := [(2, .int (nI (setN (fun v => asoB rd rc rv ki we j v (we j)) i ||| 2 ^ i))), (3, .int (nI i)), (0, .ref (ad 0)), (1, .int (nI j))]) hx hb dX2_kinds_45 rfl hl (by decide) rfl (fun ls hl => ?_)
            refine lv_iinc (v := nI (i + 1)) (lv' := [(3, .int (nI (i + 1))), (2, .int (nI (setN (fun v => asoB rd rc rv ki we j v (we j)) i ||| 2 ^ i))), (0, .ref (ad 0)), (1, .int (nI j))]) hx hb dX2_kinds_46 hl (k := 1) rfl xinc1 (by decide) rfl (fun ls hl => ?_)
            refine lv_goto (tgt := 17) hx hb dX2_kinds_49 (by decide) ?_
            exact ih (i + 1) (nI (setN (fun v => asoB rd rc rv ki we j v (we j)) i ||| 2 ^ i)) (by simp [setN, c_8, hclj, c_19, c_37]) (by omega) (by omega) ls (lv_sub hl [0, 1, 2, 3] rfl)
    exact K17 _ 0 (nI 0) (by first | rfl | exact Nat.zero_le _ | omega | assumption) (by first | rfl | exact Nat.zero_le _ | omega | assumption) (Nat.lt_succ_self _) ls (lv_sub hl [0, 1, 2, 3] rfl)
  ·
    replace c_8 := bI_0.mp c_8
    refine lv_iconst (v := (-1)) hx hb dX2_kinds_11 (by decide) ?_
    exact xretR hx hb hr hlk dX2_kinds_12 (by simp [A_kinds, c_8])

set_option maxHeartbeats 4000000 in
set_option maxRecDepth 100000 in
theorem c_X2_share (l : Launch) (D : va_G) (cI cS : ClassId) (up : Nat) (low : Nat) (q : Nat) (v : Nat) (hq : q ≤ 8) (hlow : low = 2 ^ q) (hup : up ≤ 256) (hv : v ≤ 1) : Met l yX2_share wsX2_share ({ frames := 0, cells := 0, slots := 0, locals := 0 }) (PR D cI cS [.int (nI up), .int (nI low), .int (nI v)] []) (vp_Sl (fun r => r = lN (shN up low v))) 0 0 (fun _ => False) := by
  refine startR (by decide) rfl (Nat.le_of_ble_eq_true rfl) ?_
  intro p e s m below meth c hx hb hr hts hown hlk hml hG hP ls hl
  have hl : lv_has ls 6 [(0, .int (nI up)), (1, .int (nI low)), (2, .int (nI v))] := hl
  have hF : CallFix p m c cX2_share 6 s _ wsX2_share RX2 := ⟨hx, hb, hml, hown, hts⟩
  have hl2 : low ≤ 256 := by rw [hlow]; exact two_pow_le hq
  refine lv_iload_n hx hb dX2_share_0 rfl (lv_at hl 0 rfl) ?_
  refine lv_istore_n (lv' := [(3, .int (nI up)), (0, .int (nI up)), (1, .int (nI low)), (2, .int (nI v))]) hx hb dX2_share_1 rfl hl (by decide) rfl (fun ls hl => ?_)
  refine lv_iload_n hx hb dX2_share_2 rfl (lv_at hl 2 rfl) ?_
  refine lv_istore (lv' := [(4, .int (nI low)), (3, .int (nI up)), (0, .int (nI up)), (1, .int (nI low)), (2, .int (nI v))]) hx hb dX2_share_3 hl (by decide) rfl (fun ls hl => ?_)
  refine lv_iconst (v := nI 0) hx hb dX2_share_5 (by decide) ?_
  refine lv_istore (lv' := [(5, .int (nI 0)), (4, .int (nI low)), (3, .int (nI up)), (0, .int (nI up)), (1, .int (nI low)), (2, .int (nI v))]) hx hb dX2_share_6 hl (by decide) rfl (fun ls hl => ?_)
  have K8 : ∀ (fuel : Nat) (i : Nat) (u : Nat) (lw : Nat), (i ≤ 8) → (u ≤ 256) → (lw ≤ 256) → (shP (8 - i) u lw = shP 8 up low) → (8 - i) < fuel → ∀ ls : Array Slot, lv_has ls 6 [(5, .int (nI i)), (4, .int (nI lw)), (3, .int (nI u)), (0, .int (nI up)), (1, .int (nI low)), (2, .int (nI v))] → W p l e ({ frames := 0, cells := 0, slots := 0, locals := 0 }) s m (([.int (nI up), .int (nI low), .int (nI v)] : List Value).toArray) below meth c s.heap [] 0 0 (MQ below (vp_Sl (fun r => r = lN (shN up low v))) (([.int (nI up), .int (nI low), .int (nI v)] : List Value).toArray) s 0 0 (fun _ => False)) (F0 m 8 ls []) := by
    intro fuel
    induction fuel with
    | zero => intro i u lw hi hu hlw he hmu; exact absurd hmu (Nat.not_lt_zero _)
    | succ fuel ih =>
      intro i u lw hi hu hlw he hmu ls hl
      refine lv_iload hx hb dX2_share_8 (lv_at hl 0 rfl) ?_
      refine lv_bipush (v := nI 8) hx hb dX2_share_10 (by decide) ?_
      refine lv_icmp_ge (tgt := 43) hx hb dX2_share_12 (by decide) (fun c_12 => ?_) (fun c_12 => ?_)
      ·
        replace c_12 := (nI_leI (a := 8) (b := i) (by omega) (by omega)).mp c_12
        have e1 : shP 8 up low = (u, lw) := shP_stop (i := i) hi (by omega) he
        refine lv_iload_n hx hb dX2_share_43 rfl (lv_at hl 5 rfl) ?_
        refine lv_if_ne (tgt := 52) hx hb dX2_share_44 (by decide) (fun c_44 => ?_) (fun c_44 => ?_)
        ·
          replace c_44 := (not_congr (nI_eq (a := v) (b := 0) (by omega) (by omega))).mp c_44
          refine lv_iload hx hb dX2_share_52 (lv_at hl 1 rfl) ?_
          refine lv_i2l (v := lN lw) hx hb dX2_share_54 (nI_l (by omega)) ?_
          exact xretRl hx hb hr hlk dX2_share_55 (by first | exact congrArg lN (shN_0 e1 hq hlow hup c_44) | exact congrArg lN (shN_1 e1 hq hlow hup c_44))
        ·
          replace c_44 := (nI_eq (a := v) (b := 0) (by omega) (by omega)).mp c_44
          refine lv_iload_n hx hb dX2_share_47 rfl (lv_at hl 2 rfl) ?_
          refine lv_i2l (v := lN u) hx hb dX2_share_48 (nI_l (by omega)) ?_
          refine lv_goto (tgt := 55) hx hb dX2_share_49 (by decide) ?_
          exact xretRl hx hb hr hlk dX2_share_55 (by first | exact congrArg lN (shN_0 e1 hq hlow hup c_44) | exact congrArg lN (shN_1 e1 hq hlow hup c_44))
      ·
        replace c_12 := (not_congr (nI_leI (a := 8) (b := i) (by omega) (by omega))).mp c_12
        refine lv_iload hx hb dX2_share_15 (lv_at hl 1 rfl) ?_
        refine lv_iconst (v := nI 1) hx hb dX2_share_17 (by decide) ?_
        refine lv_icmp_le (tgt := 43) hx hb dX2_share_18 (by decide) (fun c_18 => ?_) (fun c_18 => ?_)
        ·
          replace c_18 := (nI_leI (a := lw) (b := 1) (by omega) (by omega)).mp c_18
          have e1 : shP 8 up low = (u, lw) := shP_stop (i := i) hi (by omega) he
          refine lv_iload_n hx hb dX2_share_43 rfl (lv_at hl 5 rfl) ?_
          refine lv_if_ne (tgt := 52) hx hb dX2_share_44 (by decide) (fun c_44 => ?_) (fun c_44 => ?_)
          ·
            replace c_44 := (not_congr (nI_eq (a := v) (b := 0) (by omega) (by omega))).mp c_44
            refine lv_iload hx hb dX2_share_52 (lv_at hl 1 rfl) ?_
            refine lv_i2l (v := lN lw) hx hb dX2_share_54 (nI_l (by omega)) ?_
            exact xretRl hx hb hr hlk dX2_share_55 (by first | exact congrArg lN (shN_0 e1 hq hlow hup c_44) | exact congrArg lN (shN_1 e1 hq hlow hup c_44))
          ·
            replace c_44 := (nI_eq (a := v) (b := 0) (by omega) (by omega)).mp c_44
            refine lv_iload_n hx hb dX2_share_47 rfl (lv_at hl 2 rfl) ?_
            refine lv_i2l (v := lN u) hx hb dX2_share_48 (nI_l (by omega)) ?_
            refine lv_goto (tgt := 55) hx hb dX2_share_49 (by decide) ?_
            exact xretRl hx hb hr hlk dX2_share_55 (by first | exact congrArg lN (shN_0 e1 hq hlow hup c_44) | exact congrArg lN (shN_1 e1 hq hlow hup c_44))
        ·
          replace c_18 := (not_congr (nI_leI (a := lw) (b := 1) (by omega) (by omega))).mp c_18
          refine lv_iload_n hx hb dX2_share_21 rfl (lv_at hl 2 rfl) ?_
          refine lv_iconst (v := nI 1) hx hb dX2_share_22 (by decide) ?_
          refine lv_iand hx hb dX2_share_23 ?_
          refine xtop (x' := nI (u % 2)) (by exact and1_mod u) ?_
          refine lv_if_ne (tgt := 43) hx hb dX2_share_24 (by decide) (fun c_24 => ?_) (fun c_24 => ?_)
          ·
            replace c_24 := (not_congr (nI_eq (a := u % 2) (b := 0) (by omega) (by omega))).mp c_24
            have e1 : shP 8 up low = (u, lw) := shP_stop (i := i) hi (by omega) he
            refine lv_iload_n hx hb dX2_share_43 rfl (lv_at hl 5 rfl) ?_
            refine lv_if_ne (tgt := 52) hx hb dX2_share_44 (by decide) (fun c_44 => ?_) (fun c_44 => ?_)
            ·
              replace c_44 := (not_congr (nI_eq (a := v) (b := 0) (by omega) (by omega))).mp c_44
              refine lv_iload hx hb dX2_share_52 (lv_at hl 1 rfl) ?_
              refine lv_i2l (v := lN lw) hx hb dX2_share_54 (nI_l (by omega)) ?_
              exact xretRl hx hb hr hlk dX2_share_55 (by first | exact congrArg lN (shN_0 e1 hq hlow hup c_44) | exact congrArg lN (shN_1 e1 hq hlow hup c_44))
            ·
              replace c_44 := (nI_eq (a := v) (b := 0) (by omega) (by omega)).mp c_44
              refine lv_iload_n hx hb dX2_share_47 rfl (lv_at hl 2 rfl) ?_
              refine lv_i2l (v := lN u) hx hb dX2_share_48 (nI_l (by omega)) ?_
              refine lv_goto (tgt := 55) hx hb dX2_share_49 (by decide) ?_
              exact xretRl hx hb hr hlk dX2_share_55 (by first | exact congrArg lN (shN_0 e1 hq hlow hup c_44) | exact congrArg lN (shN_1 e1 hq hlow hup c_44))
          ·
            replace c_24 := (nI_eq (a := u % 2) (b := 0) (by omega) (by omega)).mp c_24
            refine lv_iload_n hx hb dX2_share_27 rfl (lv_at hl 2 rfl) ?_
            refine lv_iconst (v := nI 2) hx hb dX2_share_28 (by decide) ?_
            refine xdivN (x := u) (y := 2) (by omega) (by omega) (by omega) hx hb dX2_share_29 ?_
            refine lv_istore_n (lv' := [(3, .int (nI (u / 2))), (5, .int (nI i)), (4, .int (nI lw)), (0, .int (nI up)), (1, .int (nI low)), (2, .int (nI v))]) hx hb dX2_share_30 rfl hl (by decide) rfl (fun ls hl => ?_)
            refine lv_iload hx hb dX2_share_31 (lv_at hl 2 rfl) ?_
            refine lv_iconst (v := nI 2) hx hb dX2_share_33 (by decide) ?_
            refine xdivN (x := lw) (y := 2) (by omega) (by omega) (by omega) hx hb dX2_share_34 ?_
            refine lv_istore (lv' := [(4, .int (nI (lw / 2))), (3, .int (nI (u / 2))), (5, .int (nI i)), (0, .int (nI up)), (1, .int (nI low)), (2, .int (nI v))]) hx hb dX2_share_35 hl (by decide) rfl (fun ls hl => ?_)
            refine lv_iinc (v := nI (i + 1)) (lv' := [(5, .int (nI (i + 1))), (4, .int (nI (lw / 2))), (3, .int (nI (u / 2))), (0, .int (nI up)), (1, .int (nI low)), (2, .int (nI v))]) hx hb dX2_share_37 hl (k := 2) rfl xinc1 (by decide) rfl (fun ls hl => ?_)
            refine lv_goto (tgt := 8) hx hb dX2_share_40 (by decide) ?_
            exact ih (i + 1) (u / 2) (lw / 2)  (by omega) (by omega) (by omega) (by exact shP_step (by omega) ⟨by omega, c_24⟩ he) (by omega) ls (lv_sub hl [0, 1, 2, 3, 4, 5] rfl)
  exact K8 _ 0 up low  (by first | rfl | omega) (by first | rfl | omega) (by first | rfl | omega) (by first | rfl | omega) (Nat.lt_succ_self _) ls (lv_sub hl [0, 1, 2, 3, 4, 5] rfl)

set_option maxHeartbeats 4000000 in
set_option maxRecDepth 100000 in
theorem c_X2_power (l : Launch) (D : va_G) (cI cS : ClassId) (ad : Nat → Nat) (sh : Nat → Bool) (sla : Nat → Nat) (sle : Nat → Nat) (sf : Nat → Nat → Int32) (n : Nat) (fo : Nat) (ki : Nat → Nat) (st : Nat → Nat) (we : Nat → Nat) (lo : Nat → Nat) (n2 : Nat) (go : Nat) (kj : Nat → Nat) (sj : Nat → Nat) (wj : Nat → Nat) (lj : Nat → Nat) (ti : Nat → Int32) (rc : Nat → Nat) (rv : Nat → Nat) (rd : Nat) (tr : Int32) (fa : Nat) (k : Int32) (v : Int32) (hn : n ≤ 8) (hfo : fo < 256) (hki : ∀ j, ki j ≤ 2) (hwe : ∀ j, we j ≤ 9) (hst : ∀ j, st j ≤ 3) (hlo : ∀ j, lo j ≤ 3) : Met l yX2_power wsX2_power ({ frames := 4, cells := 0, slots := 0, locals := 86 }) (PR D cI cS [.ref (ad 0), .int k, .int v] (wX cI cS ad sh sla sle sf n fo ki st we lo n2 go kj sj wj lj ti rc rv rd tr fa)) (vp_Sl (fun r => r = A_power n fo ki st we k v)) 0 0 (fun _ => False) := by
  refine startR (by decide) rfl (Nat.le_of_ble_eq_true rfl) ?_
  intro p e s m below meth c hx hb hr hts hown hlk hml hG hP ls hl
  have hl : lv_has ls 8 [(0, .ref (ad 0)), (1, .int k), (2, .int v)] := hl
  have f20 := hts (.fieldLink RX2 20 "ChairBallot" "now" "LChairBallot$Row;") (by decide +kernel)
  have yX2 : ∀ w ∈ u_ws RX2 TX2 9, w.before _ s = true := fun w h => hts w ((by decide +kernel : ∀ w ∈ wsX20, w ∈ wsX2_power) w h)
  have hF : CallFix p m c cX2_power 8 s _ wsX2_power RX2 := ⟨hx, hb, hml, hown, hts⟩
  refine lv_iload_n hx hb dX2_power_0 rfl (lv_at hl 1 rfl) ?_
  refine xrd (va_runS (As := [.int k]) (rest := []) hF (c_X2_isStripe l D cI cS k ) (va_cwS 1 hts gX2_power_X2_isStripe rfl rfl rfl hD_X2_isStripe ⟨Nat.le_of_ble_eq_true rfl, Nat.le_of_ble_eq_true rfl⟩) (PR.pre hG (hP.sub (ws' := []) [] rfl)) rfl rfl hl.1 rfl (lv_room (Nat.le_of_ble_eq_true rfl)) dX2_power_1 ⟨Nat.le_refl _, Nat.le_refl _⟩) ?_
  refine lv_if_eq (tgt := 21) hx hb dX2_power_4 (by decide) (fun c_4 => ?_) (fun c_4 => ?_)
  ·
    replace c_4 := bI_0.mp c_4
    refine lv_ldc2 (v := -9223372036854775808) hx hb hown (hts (.constantLong RX2 195 (-9223372036854775808)) (by decide +kernel)) dX2_power_21 ?_
    exact xretRl hx hb hr hlk dX2_power_24 (by simp [A_power, lostL, c_4])
  ·
    replace c_4 := bI_n0.mp c_4
    obtain ⟨t, ht0, ht1, rfl⟩ := rgB_nat (by decide) c_4
    have hclt := cl8 (j := t) (by omega)
    refine lv_iload_n hx hb dX2_power_7 rfl (lv_at hl 2 rfl) ?_
    refine xrd (va_runS (As := [.int v]) (rest := []) hF (c_X2_isUpperOrLower l D cI cS v ) (va_cwS 1 hts gX2_power_X2_isUpperOrLower rfl rfl rfl hD_X2_isUpperOrLower ⟨Nat.le_of_ble_eq_true rfl, Nat.le_of_ble_eq_true rfl⟩) (PR.pre hG (hP.sub (ws' := []) [] rfl)) rfl rfl hl.1 rfl (lv_room (Nat.le_of_ble_eq_true rfl)) dX2_power_8 ⟨Nat.le_refl _, Nat.le_refl _⟩) ?_
    refine lv_if_eq (tgt := 21) hx hb dX2_power_11 (by decide) (fun c_11 => ?_) (fun c_11 => ?_)
    ·
      replace c_11 := bI_0.mp c_11
      refine lv_ldc2 (v := -9223372036854775808) hx hb hown (hts (.constantLong RX2 195 (-9223372036854775808)) (by decide +kernel)) dX2_power_21 ?_
      exact xretRl hx hb hr hlk dX2_power_24 (by simp [A_power, lostL, c_4, hclt, c_11])
    ·
      replace c_11 := bI_n0.mp c_11
      obtain ⟨w, hw0, hw1, rfl⟩ := rgB_nat (by decide) c_11
      have hclw := cl8 (j := w) (by omega)
      refine lv_aload_n hx hb dX2_power_14 rfl (lv_at hl 0 rfl) ?_
      refine xrd (va_runV (As := []) (rest := []) hF (c_X2_hasFront l D cI cS ad sh sla sle sf n fo ki st we lo n2 go kj sj wj lj ti rc rv rd tr fa (by first | assumption | omega)) (cwV 0 hts gX2_power_X2_hasFront rfl rfl rfl hV_X2_hasFront ⟨Nat.le_of_ble_eq_true rfl, Nat.le_of_ble_eq_true rfl⟩) (PR.preV hG hP (ci := 2) rfl rfl) rfl rfl hl.1 rfl (lv_room (Nat.le_of_ble_eq_true rfl)) dX2_power_15 ⟨Nat.le_refl _, Nat.le_refl _⟩) ?_
      refine lv_if_ne (tgt := 25) hx hb dX2_power_18 (by decide) (fun c_18 => ?_) (fun c_18 => ?_)
      ·
        replace c_18 := bI_n0.mp c_18
        replace c_18 := of_decide_eq_true c_18
        have hd : decide (0 < n) = true := decide_eq_true c_18
        refine lv_iconst (v := nI 1) hx hb dX2_power_25 (by decide) ?_
        refine lv_iload_n hx hb dX2_power_26 rfl (lv_at hl 1 rfl) ?_
        refine lv_ishl hx hb dX2_power_27 ?_
        refine xtop (x' := nI (2 ^ t)) (by exact shl1 t (by omega)) ?_
        refine lv_istore_n (lv' := [(3, .int (nI (2 ^ t))), (0, .ref (ad 0)), (1, .int (nI t)), (2, .int (nI w))]) hx hb dX2_power_28 rfl hl (by decide) rfl (fun ls hl => ?_)
        refine lv_bipush (v := nI 16) hx hb dX2_power_29 (by decide) ?_
        refine lv_istore (lv' := [(4, .int (nI 16)), (3, .int (nI (2 ^ t))), (0, .ref (ad 0)), (1, .int (nI t)), (2, .int (nI w))]) hx hb dX2_power_31 hl (by decide) rfl (fun ls hl => ?_)
        refine lv_aload_n hx hb dX2_power_33 rfl (lv_at hl 2 rfl) ?_
        refine va_get (D := D) (ci := 2) (v := .ref (ad 10)) (C := RX2) (T := TX2) (N := 9) hx hb yX2 (fun _ h => h) hown hG.1 hP 0 rfl rfl 1 (by decide) f20 (fun _ h => h) rfl dX2_power_34 ?_
        refine lv_iload hx hb dX2_power_37 (lv_at hl 0 rfl) ?_
        refine lv_iconst (v := nI 1) hx hb dX2_power_39 (by decide) ?_
        refine xsubN (x := 16) (y := 1) hx hb (by omega) dX2_power_40 ?_
        refine xtop (x' := nI 15) (by rfl) ?_
        refine xrd (va_runV (As := [.int (nI 15)]) (rest := []) hF (c_X0_votesOfStripes l D cI cS (ad 10) (ad 11) (ad 12) (ad 13) (ad 14) n fo ki st we lo 15 (by first | assumption | omega) (by first | assumption | omega) (by first | assumption | omega) (by first | assumption | omega) (by first | assumption | omega) (by first | omega | (have h9 := or16 (s := i) (t := t) (by omega) (by omega); omega))) (cwV 1 hts gX2_power_X0_votesOfStripes rfl rfl rfl hV_X0_votesOfStripes ⟨Nat.le_of_ble_eq_true rfl, Nat.le_of_ble_eq_true rfl⟩) (PR.preV hG (hP.sub (ws' := (wRow cI (ad 10) (ad 11) (ad 12) (ad 13) (ad 14) n fo ki st we lo)) [10, 11, 12, 13, 14] rfl) (ci := 0) rfl rfl) rfl rfl hl.1 rfl (lv_room (Nat.le_of_ble_eq_true rfl)) dX2_power_41 ⟨Nat.le_refl _, Nat.le_refl _⟩) ?_
        refine xtop (x' := nI (pwT n fo ki st we 15)) (by rfl) ?_
        refine lv_istore (lv' := [(5, .int (nI (pwT n fo ki st we 15))), (4, .int (nI 16)), (3, .int (nI (2 ^ t))), (0, .ref (ad 0)), (1, .int (nI t)), (2, .int (nI w))]) hx hb dX2_power_44 hl (by decide) rfl (fun ls hl => ?_)
        refine lv_iconst (v := nI 0) hx hb dX2_power_46 (by decide) ?_
        refine lv_istore (lv' := [(6, .int (nI 0)), (5, .int (nI (pwT n fo ki st we 15))), (4, .int (nI 16)), (3, .int (nI (2 ^ t))), (0, .ref (ad 0)), (1, .int (nI t)), (2, .int (nI w))]) hx hb dX2_power_47 hl (by decide) rfl (fun ls hl => ?_)
        refine lv_iconst (v := nI 0) hx hb dX2_power_49 (by decide) ?_
        refine lv_istore (lv' := [(7, .int (nI 0)), (6, .int (nI 0)), (5, .int (nI (pwT n fo ki st we 15))), (4, .int (nI 16)), (3, .int (nI (2 ^ t))), (0, .ref (ad 0)), (1, .int (nI t)), (2, .int (nI w))]) hx hb dX2_power_50 hl (by decide) rfl (fun ls hl => ?_)
        have K52 : ∀ (fuel : Nat) (i : Nat) (x6 : Int32), x6 = nI (cntN (pwP n fo ki st we t) i) → (i ≤ 16) → (16 - i) < fuel → ∀ ls : Array Slot, lv_has ls 8 [(7, .int (nI i)), (6, .int x6), (5, .int (nI (pwT n fo ki st we 15))), (4, .int (nI 16)), (3, .int (nI (2 ^ t))), (0, .ref (ad 0)), (1, .int (nI t)), (2, .int (nI w))] → W p l e ({ frames := 4, cells := 0, slots := 0, locals := 86 }) s m (([.ref (ad 0), .int (nI t), .int (nI w)] : List Value).toArray) below meth c s.heap [] 0 0 (MQ below (vp_Sl (fun r => r = A_power n fo ki st we (nI t) (nI w))) (([.ref (ad 0), .int (nI t), .int (nI w)] : List Value).toArray) s 0 0 (fun _ => False)) (F0 m 52 ls []) := by
          intro fuel
          induction fuel with
          | zero => intro i x6 e_x6 hi hmu; exact absurd hmu (Nat.not_lt_zero _)
          | succ fuel ih =>
            intro i x6 e_x6 hi hmu ls hl
            subst e_x6
            have ha : i &&& 2 ^ t ≤ i := Nat.and_le_left
            have hp1 := pwT_le (fo := fo) (ki := ki) (st := st) hwe hn i
            have hp2 := pwT_le (fo := fo) (ki := ki) (st := st) hwe hn (i ||| 2 ^ t)
            have hp3 := pwT_le (fo := fo) (ki := ki) (st := st) hwe hn 15
            refine lv_iload hx hb dX2_power_52 (lv_at hl 0 rfl) ?_
            refine lv_iload hx hb dX2_power_54 (lv_at hl 3 rfl) ?_
            refine lv_icmp_ge (tgt := 109) hx hb dX2_power_56 (by decide) (fun c_56 => ?_) (fun c_56 => ?_)
            ·
              replace c_56 := (nI_leI (a := 16) (b := i) (by omega) (by omega)).mp c_56
              have hin : 16 = i := by omega
              subst hin
              refine lv_iload hx hb dX2_power_109 (lv_at hl 1 rfl) ?_
              refine lv_iload hx hb dX2_power_111 (lv_at hl 3 rfl) ?_
              refine lv_iconst (v := nI 2) hx hb dX2_power_113 (by decide) ?_
              refine xdivN (x := 16) (y := 2) (by omega) (by omega) (by omega) hx hb dX2_power_114 ?_
              refine xtop (x' := nI 8) (by rfl) ?_
              refine lv_iload_n hx hb dX2_power_115 rfl (lv_at hl 7 rfl) ?_
              refine xrdl (va_runS (As := [.int (nI (cntN (pwP n fo ki st we t) 16)), .int (nI 8), .int (nI w)]) (rest := []) hF (c_X2_share l D cI cS (cntN (pwP n fo ki st we t) 16) 8 3 w (by omega) (by rfl) (by have h9 := cntN_le (pwP n fo ki st we t) 16; omega) (by first | assumption | omega)) (va_cwS 3 hts gX2_power_X2_share rfl rfl rfl hD_X2_share ⟨Nat.le_of_ble_eq_true rfl, Nat.le_of_ble_eq_true rfl⟩) (PR.pre hG (hP.sub (ws' := []) [] rfl)) rfl rfl hl.1 rfl (lv_room (Nat.le_of_ble_eq_true rfl)) dX2_power_116 ⟨Nat.le_refl _, Nat.le_refl _⟩) ?_
              exact xretRl hx hb hr hlk dX2_power_119 (by simp [A_power, lostL, c_4, hclt, c_11, hclw, c_18, hd, c_56])
            ·
              replace c_56 := (not_congr (nI_leI (a := 16) (b := i) (by omega) (by omega))).mp c_56
              refine lv_iload hx hb dX2_power_59 (lv_at hl 0 rfl) ?_
              refine lv_iload_n hx hb dX2_power_61 rfl (lv_at hl 4 rfl) ?_
              refine lv_iand hx hb dX2_power_62 ?_
              refine xtop (x' := nI (i &&& 2 ^ t)) (by exact nI_and _ _) ?_
              refine lv_if_ne (tgt := 103) hx hb dX2_power_63 (by decide) (fun c_63 => ?_) (fun c_63 => ?_)
              ·
                replace c_63 := (not_congr (nI_eq (a := i &&& 2 ^ t) (b := 0) (by omega) (by omega))).mp c_63
                refine lv_iinc (v := nI (i + 1)) (lv' := [(7, .int (nI (i + 1))), (6, .int (nI (cntN (pwP n fo ki st we t) i))), (5, .int (nI (pwT n fo ki st we 15))), (4, .int (nI 16)), (3, .int (nI (2 ^ t))), (0, .ref (ad 0)), (1, .int (nI t)), (2, .int (nI w))]) hx hb dX2_power_103 hl (k := 0) rfl xinc1 (by decide) rfl (fun ls hl => ?_)
                refine lv_goto (tgt := 52) hx hb dX2_power_106 (by decide) ?_
                exact ih (i + 1) (nI (cntN (pwP n fo ki st we t) i)) (by rw [cnt_n (P := pwP n fo ki st we t) (pw_1 (by omega) (by omega) c_63)]) (by omega) (by omega) ls (lv_sub hl [0, 1, 2, 3, 4, 5, 6, 7] rfl)
              ·
                replace c_63 := (nI_eq (a := i &&& 2 ^ t) (b := 0) (by omega) (by omega)).mp c_63
                refine lv_iconst (v := nI 2) hx hb dX2_power_66 (by decide) ?_
                refine lv_aload_n hx hb dX2_power_67 rfl (lv_at hl 5 rfl) ?_
                refine va_get (D := D) (ci := 2) (v := .ref (ad 10)) (C := RX2) (T := TX2) (N := 9) hx hb yX2 (fun _ h => h) hown hG.1 hP 0 rfl rfl 1 (by decide) f20 (fun _ h => h) rfl dX2_power_68 ?_
                refine lv_iload hx hb dX2_power_71 (lv_at hl 0 rfl) ?_
                refine xrd (va_runV (As := [.int (nI i)]) (rest := [.int (nI 2)]) hF (c_X0_votesOfStripes l D cI cS (ad 10) (ad 11) (ad 12) (ad 13) (ad 14) n fo ki st we lo i (by first | assumption | omega) (by first | assumption | omega) (by first | assumption | omega) (by first | assumption | omega) (by first | assumption | omega) (by first | omega | (have h9 := or16 (s := i) (t := t) (by omega) (by omega); omega))) (cwV 1 hts gX2_power_X0_votesOfStripes rfl rfl rfl hV_X0_votesOfStripes ⟨Nat.le_of_ble_eq_true rfl, Nat.le_of_ble_eq_true rfl⟩) (PR.preV hG (hP.sub (ws' := (wRow cI (ad 10) (ad 11) (ad 12) (ad 13) (ad 14) n fo ki st we lo)) [10, 11, 12, 13, 14] rfl) (ci := 0) rfl rfl) rfl rfl hl.1 rfl (lv_room (Nat.le_of_ble_eq_true rfl)) dX2_power_73 ⟨Nat.le_refl _, Nat.le_refl _⟩) ?_
                refine xtop (x' := nI (pwT n fo ki st we i)) (by rfl) ?_
                refine xmulN hx hb dX2_power_76 ?_
                refine lv_iload hx hb dX2_power_77 (lv_at hl 2 rfl) ?_
                refine lv_icmp_gt (tgt := 103) hx hb dX2_power_79 (by decide) (fun c_79 => ?_) (fun c_79 => ?_)
                ·
                  replace c_79 := (nI_ltI (a := pwT n fo ki st we 15) (b := 2 * (pwT n fo ki st we i)) (by omega) (by omega)).mp c_79
                  refine lv_iinc (v := nI (i + 1)) (lv' := [(7, .int (nI (i + 1))), (6, .int (nI (cntN (pwP n fo ki st we t) i))), (5, .int (nI (pwT n fo ki st we 15))), (4, .int (nI 16)), (3, .int (nI (2 ^ t))), (0, .ref (ad 0)), (1, .int (nI t)), (2, .int (nI w))]) hx hb dX2_power_103 hl (k := 0) rfl xinc1 (by decide) rfl (fun ls hl => ?_)
                  refine lv_goto (tgt := 52) hx hb dX2_power_106 (by decide) ?_
                  exact ih (i + 1) (nI (cntN (pwP n fo ki st we t) i)) (by rw [cnt_n (P := pwP n fo ki st we t) (pw_2 c_79)]) (by omega) (by omega) ls (lv_sub hl [0, 1, 2, 3, 4, 5, 6, 7] rfl)
                ·
                  replace c_79 := (not_congr (nI_ltI (a := pwT n fo ki st we 15) (b := 2 * (pwT n fo ki st we i)) (by omega) (by omega))).mp c_79
                  refine lv_iconst (v := nI 2) hx hb dX2_power_82 (by decide) ?_
                  refine lv_aload_n hx hb dX2_power_83 rfl (lv_at hl 5 rfl) ?_
                  refine va_get (D := D) (ci := 2) (v := .ref (ad 10)) (C := RX2) (T := TX2) (N := 9) hx hb yX2 (fun _ h => h) hown hG.1 hP 0 rfl rfl 1 (by decide) f20 (fun _ h => h) rfl dX2_power_84 ?_
                  refine lv_iload hx hb dX2_power_87 (lv_at hl 0 rfl) ?_
                  refine lv_iload_n hx hb dX2_power_89 rfl (lv_at hl 4 rfl) ?_
                  refine lv_ior hx hb dX2_power_90 ?_
                  refine xtop (x' := nI (i ||| 2 ^ t)) (by exact nI_or _ _) ?_
                  refine xrd (va_runV (As := [.int (nI (i ||| 2 ^ t))]) (rest := [.int (nI 2)]) hF (c_X0_votesOfStripes l D cI cS (ad 10) (ad 11) (ad 12) (ad 13) (ad 14) n fo ki st we lo (i ||| 2 ^ t) (by first | assumption | omega) (by first | assumption | omega) (by first | assumption | omega) (by first | assumption | omega) (by first | assumption | omega) (by first | omega | (have h9 := or16 (s := i) (t := t) (by omega) (by omega); omega))) (cwV 1 hts gX2_power_X0_votesOfStripes rfl rfl rfl hV_X0_votesOfStripes ⟨Nat.le_of_ble_eq_true rfl, Nat.le_of_ble_eq_true rfl⟩) (PR.preV hG (hP.sub (ws' := (wRow cI (ad 10) (ad 11) (ad 12) (ad 13) (ad 14) n fo ki st we lo)) [10, 11, 12, 13, 14] rfl) (ci := 0) rfl rfl) rfl rfl hl.1 rfl (lv_room (Nat.le_of_ble_eq_true rfl)) dX2_power_91 ⟨Nat.le_refl _, Nat.le_refl _⟩) ?_
                  refine xtop (x' := nI (pwT n fo ki st we (i ||| 2 ^ t))) (by rfl) ?_
                  refine xmulN hx hb dX2_power_94 ?_
                  refine lv_iload hx hb dX2_power_95 (lv_at hl 2 rfl) ?_
                  refine lv_icmp_le (tgt := 103) hx hb dX2_power_97 (by decide) (fun c_97 => ?_) (fun c_97 => ?_)
                  ·
                    replace c_97 := (nI_leI (a := 2 * (pwT n fo ki st we (i ||| 2 ^ t))) (b := pwT n fo ki st we 15) (by omega) (by omega)).mp c_97
                    refine lv_iinc (v := nI (i + 1)) (lv' := [(7, .int (nI (i + 1))), (6, .int (nI (cntN (pwP n fo ki st we t) i))), (5, .int (nI (pwT n fo ki st we 15))), (4, .int (nI 16)), (3, .int (nI (2 ^ t))), (0, .ref (ad 0)), (1, .int (nI t)), (2, .int (nI w))]) hx hb dX2_power_103 hl (k := 0) rfl xinc1 (by decide) rfl (fun ls hl => ?_)
                    refine lv_goto (tgt := 52) hx hb dX2_power_106 (by decide) ?_
                    exact ih (i + 1) (nI (cntN (pwP n fo ki st we t) i)) (by rw [cnt_n (P := pwP n fo ki st we t) (pw_3 c_97)]) (by omega) (by omega) ls (lv_sub hl [0, 1, 2, 3, 4, 5, 6, 7] rfl)
                  ·
                    replace c_97 := (not_congr (nI_leI (a := 2 * (pwT n fo ki st we (i ||| 2 ^ t))) (b := pwT n fo ki st we 15) (by omega) (by omega))).mp c_97
                    refine lv_iinc (v := nI (cntN (pwP n fo ki st we t) i + 1)) (lv' := [(6, .int (nI (cntN (pwP n fo ki st we t) i + 1))), (7, .int (nI i)), (5, .int (nI (pwT n fo ki st we 15))), (4, .int (nI 16)), (3, .int (nI (2 ^ t))), (0, .ref (ad 0)), (1, .int (nI t)), (2, .int (nI w))]) hx hb dX2_power_100 hl (k := 1) rfl xinc1 (by decide) rfl (fun ls hl => ?_)
                    refine lv_iinc (v := nI (i + 1)) (lv' := [(7, .int (nI (i + 1))), (6, .int (nI (cntN (pwP n fo ki st we t) i + 1))), (5, .int (nI (pwT n fo ki st we 15))), (4, .int (nI 16)), (3, .int (nI (2 ^ t))), (0, .ref (ad 0)), (1, .int (nI t)), (2, .int (nI w))]) hx hb dX2_power_103 hl (k := 1) rfl xinc1 (by decide) rfl (fun ls hl => ?_)
                    refine lv_goto (tgt := 52) hx hb dX2_power_106 (by decide) ?_
                    exact ih (i + 1) (nI (cntN (pwP n fo ki st we t) i + 1)) (by rw [cnt_y (P := pwP n fo ki st we t) (pw_y (by omega) (by omega) c_63 c_79 c_97)]) (by omega) (by omega) ls (lv_sub hl [0, 1, 2, 3, 4, 5, 6, 7] rfl)
        exact K52 _ 0 (nI 0) (by first | rfl | exact Nat.zero_le _ | omega | assumption) (by first | rfl | exact Nat.zero_le _ | omega | assumption) (Nat.lt_succ_self _) ls (lv_sub hl [0, 1, 2, 3, 4, 5, 6, 7] rfl)
      ·
        replace c_18 := bI_0.mp c_18
        replace c_18 := of_decide_eq_false c_18
        have hd : decide (0 < n) = false := decide_eq_false c_18
        refine lv_ldc2 (v := -9223372036854775808) hx hb hown (hts (.constantLong RX2 195 (-9223372036854775808)) (by decide +kernel)) dX2_power_21 ?_
        exact xretRl hx hb hr hlk dX2_power_24 (by simp [A_power, lostL, c_4, hclt, c_11, hclw, c_18, hd])

set_option maxHeartbeats 4000000 in
set_option maxRecDepth 100000 in
theorem c_X2_waysThatCarry (l : Launch) (D : va_G) (cI cS : ClassId) (ad : Nat → Nat) (sh : Nat → Bool) (sla : Nat → Nat) (sle : Nat → Nat) (sf : Nat → Nat → Int32) (n : Nat) (fo : Nat) (ki : Nat → Nat) (st : Nat → Nat) (we : Nat → Nat) (lo : Nat → Nat) (n2 : Nat) (go : Nat) (kj : Nat → Nat) (sj : Nat → Nat) (wj : Nat → Nat) (lj : Nat → Nat) (ti : Nat → Int32) (rc : Nat → Nat) (rv : Nat → Nat) (rd : Nat) (tr : Int32) (fa : Nat) (hn : n ≤ 8) (hfo : fo < 256) (hki : ∀ j, ki j ≤ 2) (hwe : ∀ j, we j ≤ 9) (hst : ∀ j, st j ≤ 3) (hlo : ∀ j, lo j ≤ 3) : Met l yX2_waysThatCarry wsX2_waysThatCarry ({ frames := 4, cells := 0, slots := 0, locals := 86 }) (PR D cI cS [.ref (ad 0), .int (nI (2 ^ n))] (wX cI cS ad sh sla sle sf n fo ki st we lo n2 go kj sj wj lj ti rc rv rd tr fa)) (vp_Si (fun r => r = nI (cntN (wtcP n fo ki we) (2 ^ n)))) 0 0 (fun _ => False) := by
  refine startR (by decide) rfl (Nat.le_of_ble_eq_true rfl) ?_
  intro p e s m below meth c hx hb hr hts hown hlk hml hG hP ls hl
  have hl : lv_has ls 5 [(0, .ref (ad 0)), (1, .int (nI (2 ^ n)))] := hl
  have f20 := hts (.fieldLink RX2 20 "ChairBallot" "now" "LChairBallot$Row;") (by decide +kernel)
  have yX2 : ∀ w ∈ u_ws RX2 TX2 9, w.before _ s = true := fun w h => hts w ((by decide +kernel : ∀ w ∈ wsX20, w ∈ wsX2_waysThatCarry) w h)
  have hF : CallFix p m c cX2_waysThatCarry 5 s _ wsX2_waysThatCarry RX2 := ⟨hx, hb, hml, hown, hts⟩
  have h2n := two_pow_le hn
  refine lv_aload_n hx hb dX2_waysThatCarry_0 rfl (lv_at hl 0 rfl) ?_
  refine va_get (D := D) (ci := 2) (v := .ref (ad 10)) (C := RX2) (T := TX2) (N := 9) hx hb yX2 (fun _ h => h) hown hG.1 hP 0 rfl rfl 1 (by decide) f20 (fun _ h => h) rfl dX2_waysThatCarry_1 ?_
  refine lv_iload_n hx hb dX2_waysThatCarry_4 rfl (lv_at hl 1 rfl) ?_
  refine lv_iconst (v := nI 1) hx hb dX2_waysThatCarry_5 (by decide) ?_
  refine xsubN (x := 2 ^ n) (y := 1) hx hb (by exact Nat.one_le_two_pow) dX2_waysThatCarry_6 ?_
  refine xrd (va_runV (As := [.int (nI (2 ^ n - 1))]) (rest := []) hF (c_X0_votesIn l D cI cS (ad 10) (ad 11) (ad 12) (ad 13) (ad 14) n fo ki st we lo (2 ^ n - 1) (by first | assumption | omega) (by first | assumption | omega) (by first | assumption | omega) (by first | assumption | omega) (by first | assumption | omega)) (cwV 1 hts gX2_waysThatCarry_X0_votesIn rfl rfl rfl hV_X0_votesIn ⟨Nat.le_of_ble_eq_true rfl, Nat.le_of_ble_eq_true rfl⟩) (PR.preV hG (hP.sub (ws' := (wRow cI (ad 10) (ad 11) (ad 12) (ad 13) (ad 14) n fo ki st we lo)) [10, 11, 12, 13, 14] rfl) (ci := 0) rfl rfl) rfl rfl hl.1 rfl (lv_room (Nat.le_of_ble_eq_true rfl)) dX2_waysThatCarry_7 ⟨Nat.le_refl _, Nat.le_refl _⟩) ?_
  refine xtop (x' := nI (viT n fo ki we (2 ^ n - 1))) (by rfl) ?_
  refine lv_istore_n (lv' := [(2, .int (nI (viT n fo ki we (2 ^ n - 1)))), (0, .ref (ad 0)), (1, .int (nI (2 ^ n)))]) hx hb dX2_waysThatCarry_10 rfl hl (by decide) rfl (fun ls hl => ?_)
  refine lv_iconst (v := nI 0) hx hb dX2_waysThatCarry_11 (by decide) ?_
  refine lv_istore_n (lv' := [(3, .int (nI 0)), (2, .int (nI (viT n fo ki we (2 ^ n - 1)))), (0, .ref (ad 0)), (1, .int (nI (2 ^ n)))]) hx hb dX2_waysThatCarry_12 rfl hl (by decide) rfl (fun ls hl => ?_)
  refine lv_iconst (v := nI 0) hx hb dX2_waysThatCarry_13 (by decide) ?_
  refine lv_istore (lv' := [(4, .int (nI 0)), (3, .int (nI 0)), (2, .int (nI (viT n fo ki we (2 ^ n - 1)))), (0, .ref (ad 0)), (1, .int (nI (2 ^ n)))]) hx hb dX2_waysThatCarry_14 hl (by decide) rfl (fun ls hl => ?_)
  have K16 : ∀ (fuel : Nat) (i : Nat) (x3 : Int32), x3 = nI (cntN (wtcP n fo ki we) i) → (i ≤ 2 ^ n) → (2 ^ n - i) < fuel → ∀ ls : Array Slot, lv_has ls 5 [(4, .int (nI i)), (3, .int x3), (2, .int (nI (viT n fo ki we (2 ^ n - 1)))), (0, .ref (ad 0)), (1, .int (nI (2 ^ n)))] → W p l e ({ frames := 4, cells := 0, slots := 0, locals := 86 }) s m (([.ref (ad 0), .int (nI (2 ^ n))] : List Value).toArray) below meth c s.heap [] 0 0 (MQ below (vp_Si (fun r => r = nI (cntN (wtcP n fo ki we) (2 ^ n)))) (([.ref (ad 0), .int (nI (2 ^ n))] : List Value).toArray) s 0 0 (fun _ => False)) (F0 m 16 ls []) := by
    intro fuel
    induction fuel with
    | zero => intro i x3 e_x3 hi hmu; exact absurd hmu (Nat.not_lt_zero _)
    | succ fuel ih =>
      intro i x3 e_x3 hi hmu ls hl
      subst e_x3
      have hp1 := viT_le (fo := fo) (ki := ki) hwe hn i
      have hp3 := viT_le (fo := fo) (ki := ki) hwe hn (2 ^ n - 1)
      refine lv_iload hx hb dX2_waysThatCarry_16 (lv_at hl 0 rfl) ?_
      refine lv_iload_n hx hb dX2_waysThatCarry_18 rfl (lv_at hl 4 rfl) ?_
      refine lv_icmp_ge (tgt := 46) hx hb dX2_waysThatCarry_19 (by decide) (fun c_19 => ?_) (fun c_19 => ?_)
      ·
        replace c_19 := (nI_leI (a := 2 ^ n) (b := i) (by omega) (by omega)).mp c_19
        have hin : 2 ^ n = i := by omega
        subst hin
        refine lv_iload_n hx hb dX2_waysThatCarry_46 rfl (lv_at hl 1 rfl) ?_
        exact xretR hx hb hr hlk dX2_waysThatCarry_47 (by rfl)
      ·
        replace c_19 := (not_congr (nI_leI (a := 2 ^ n) (b := i) (by omega) (by omega))).mp c_19
        refine lv_iconst (v := nI 2) hx hb dX2_waysThatCarry_22 (by decide) ?_
        refine lv_aload_n hx hb dX2_waysThatCarry_23 rfl (lv_at hl 3 rfl) ?_
        refine va_get (D := D) (ci := 2) (v := .ref (ad 10)) (C := RX2) (T := TX2) (N := 9) hx hb yX2 (fun _ h => h) hown hG.1 hP 0 rfl rfl 1 (by decide) f20 (fun _ h => h) rfl dX2_waysThatCarry_24 ?_
        refine lv_iload hx hb dX2_waysThatCarry_27 (lv_at hl 0 rfl) ?_
        refine xrd (va_runV (As := [.int (nI i)]) (rest := [.int (nI 2)]) hF (c_X0_votesIn l D cI cS (ad 10) (ad 11) (ad 12) (ad 13) (ad 14) n fo ki st we lo i (by first | assumption | omega) (by first | assumption | omega) (by first | assumption | omega) (by first | assumption | omega) (by first | assumption | omega)) (cwV 1 hts gX2_waysThatCarry_X0_votesIn rfl rfl rfl hV_X0_votesIn ⟨Nat.le_of_ble_eq_true rfl, Nat.le_of_ble_eq_true rfl⟩) (PR.preV hG (hP.sub (ws' := (wRow cI (ad 10) (ad 11) (ad 12) (ad 13) (ad 14) n fo ki st we lo)) [10, 11, 12, 13, 14] rfl) (ci := 0) rfl rfl) rfl rfl hl.1 rfl (lv_room (Nat.le_of_ble_eq_true rfl)) dX2_waysThatCarry_29 ⟨Nat.le_refl _, Nat.le_refl _⟩) ?_
        refine xtop (x' := nI (viT n fo ki we i)) (by rfl) ?_
        refine xmulN hx hb dX2_waysThatCarry_32 ?_
        refine lv_iload_n hx hb dX2_waysThatCarry_33 rfl (lv_at hl 2 rfl) ?_
        refine lv_icmp_le (tgt := 40) hx hb dX2_waysThatCarry_34 (by decide) (fun c_34 => ?_) (fun c_34 => ?_)
        ·
          replace c_34 := (nI_leI (a := 2 * (viT n fo ki we i)) (b := viT n fo ki we (2 ^ n - 1)) (by omega) (by omega)).mp c_34
          refine lv_iinc (v := nI (i + 1)) (lv' := [(4, .int (nI (i + 1))), (3, .int (nI (cntN (wtcP n fo ki we) i))), (2, .int (nI (viT n fo ki we (2 ^ n - 1)))), (0, .ref (ad 0)), (1, .int (nI (2 ^ n)))]) hx hb dX2_waysThatCarry_40 hl (k := 0) rfl xinc1 (by decide) rfl (fun ls hl => ?_)
          refine lv_goto (tgt := 16) hx hb dX2_waysThatCarry_43 (by decide) ?_
          exact ih (i + 1) (nI (cntN (wtcP n fo ki we) i)) (by rw [cnt_n (P := wtcP n fo ki we) (decide_eq_false (by omega))]) (by omega) (by omega) ls (lv_sub hl [0, 1, 2, 3, 4] rfl)
        ·
          replace c_34 := (not_congr (nI_leI (a := 2 * (viT n fo ki we i)) (b := viT n fo ki we (2 ^ n - 1)) (by omega) (by omega))).mp c_34
          refine lv_iinc (v := nI (cntN (wtcP n fo ki we) i + 1)) (lv' := [(3, .int (nI (cntN (wtcP n fo ki we) i + 1))), (4, .int (nI i)), (2, .int (nI (viT n fo ki we (2 ^ n - 1)))), (0, .ref (ad 0)), (1, .int (nI (2 ^ n)))]) hx hb dX2_waysThatCarry_37 hl (k := 1) rfl xinc1 (by decide) rfl (fun ls hl => ?_)
          refine lv_iinc (v := nI (i + 1)) (lv' := [(4, .int (nI (i + 1))), (3, .int (nI (cntN (wtcP n fo ki we) i + 1))), (2, .int (nI (viT n fo ki we (2 ^ n - 1)))), (0, .ref (ad 0)), (1, .int (nI (2 ^ n)))]) hx hb dX2_waysThatCarry_40 hl (k := 1) rfl xinc1 (by decide) rfl (fun ls hl => ?_)
          refine lv_goto (tgt := 16) hx hb dX2_waysThatCarry_43 (by decide) ?_
          exact ih (i + 1) (nI (cntN (wtcP n fo ki we) i + 1)) (by rw [cnt_y (P := wtcP n fo ki we) (decide_eq_true (by omega))]) (by omega) (by omega) ls (lv_sub hl [0, 1, 2, 3, 4] rfl)
  exact K16 _ 0 (nI 0) (by first | rfl | exact Nat.zero_le _ | omega | assumption) (by first | rfl | exact Nat.zero_le _ | omega | assumption) (Nat.lt_succ_self _) ls (lv_sub hl [0, 1, 2, 3, 4] rfl)

set_option maxHeartbeats 4000000 in
set_option maxRecDepth 100000 in
theorem c_X2_waysDecidedBy (l : Launch) (D : va_G) (cI cS : ClassId) (ad : Nat → Nat) (sh : Nat → Bool) (sla : Nat → Nat) (sle : Nat → Nat) (sf : Nat → Nat → Int32) (n : Nat) (fo : Nat) (ki : Nat → Nat) (st : Nat → Nat) (we : Nat → Nat) (lo : Nat → Nat) (n2 : Nat) (go : Nat) (kj : Nat → Nat) (sj : Nat → Nat) (wj : Nat → Nat) (lj : Nat → Nat) (ti : Nat → Int32) (rc : Nat → Nat) (rv : Nat → Nat) (rd : Nat) (tr : Int32) (fa : Nat) (j : Nat) (hn : n ≤ 8) (hfo : fo < 256) (hki : ∀ j, ki j ≤ 2) (hwe : ∀ j, we j ≤ 9) (hst : ∀ j, st j ≤ 3) (hlo : ∀ j, lo j ≤ 3) (hj : j < n) : Met l yX2_waysDecidedBy wsX2_waysDecidedBy ({ frames := 4, cells := 0, slots := 0, locals := 86 }) (PR D cI cS [.ref (ad 0), .int (nI j), .int (nI (2 ^ n))] (wX cI cS ad sh sla sle sf n fo ki st we lo n2 go kj sj wj lj ti rc rv rd tr fa)) (vp_Si (fun r => r = nI (cntN (wdbP n fo ki we j) (2 ^ n)))) 0 0 (fun _ => False) := by
  refine startR (by decide) rfl (Nat.le_of_ble_eq_true rfl) ?_
  intro p e s m below meth c hx hb hr hts hown hlk hml hG hP ls hl
  have hl : lv_has ls 8 [(0, .ref (ad 0)), (1, .int (nI j)), (2, .int (nI (2 ^ n)))] := hl
  have f20 := hts (.fieldLink RX2 20 "ChairBallot" "now" "LChairBallot$Row;") (by decide +kernel)
  have yX2 : ∀ w ∈ u_ws RX2 TX2 9, w.before _ s = true := fun w h => hts w ((by decide +kernel : ∀ w ∈ wsX20, w ∈ wsX2_waysDecidedBy) w h)
  have hF : CallFix p m c cX2_waysDecidedBy 8 s _ wsX2_waysDecidedBy RX2 := ⟨hx, hb, hml, hown, hts⟩
  have h2n := two_pow_le hn
  have hvj := voN_le (fo := fo) (ki := ki) hwe j
  refine lv_aload_n hx hb dX2_waysDecidedBy_0 rfl (lv_at hl 0 rfl) ?_
  refine va_get (D := D) (ci := 2) (v := .ref (ad 10)) (C := RX2) (T := TX2) (N := 9) hx hb yX2 (fun _ h => h) hown hG.1 hP 0 rfl rfl 1 (by decide) f20 (fun _ h => h) rfl dX2_waysDecidedBy_1 ?_
  refine lv_iload_n hx hb dX2_waysDecidedBy_4 rfl (lv_at hl 2 rfl) ?_
  refine lv_iconst (v := nI 1) hx hb dX2_waysDecidedBy_5 (by decide) ?_
  refine xsubN (x := 2 ^ n) (y := 1) hx hb (by exact Nat.one_le_two_pow) dX2_waysDecidedBy_6 ?_
  refine xrd (va_runV (As := [.int (nI (2 ^ n - 1))]) (rest := []) hF (c_X0_votesIn l D cI cS (ad 10) (ad 11) (ad 12) (ad 13) (ad 14) n fo ki st we lo (2 ^ n - 1) (by first | assumption | omega) (by first | assumption | omega) (by first | assumption | omega) (by first | assumption | omega) (by first | assumption | omega)) (cwV 1 hts gX2_waysDecidedBy_X0_votesIn rfl rfl rfl hV_X0_votesIn ⟨Nat.le_of_ble_eq_true rfl, Nat.le_of_ble_eq_true rfl⟩) (PR.preV hG (hP.sub (ws' := (wRow cI (ad 10) (ad 11) (ad 12) (ad 13) (ad 14) n fo ki st we lo)) [10, 11, 12, 13, 14] rfl) (ci := 0) rfl rfl) rfl rfl hl.1 rfl (lv_room (Nat.le_of_ble_eq_true rfl)) dX2_waysDecidedBy_7 ⟨Nat.le_refl _, Nat.le_refl _⟩) ?_
  refine xtop (x' := nI (viT n fo ki we (2 ^ n - 1))) (by rfl) ?_
  refine lv_istore_n (lv' := [(3, .int (nI (viT n fo ki we (2 ^ n - 1)))), (0, .ref (ad 0)), (1, .int (nI j)), (2, .int (nI (2 ^ n)))]) hx hb dX2_waysDecidedBy_10 rfl hl (by decide) rfl (fun ls hl => ?_)
  refine lv_iconst (v := nI 2) hx hb dX2_waysDecidedBy_11 (by decide) ?_
  refine lv_aload_n hx hb dX2_waysDecidedBy_12 rfl (lv_at hl 1 rfl) ?_
  refine va_get (D := D) (ci := 2) (v := .ref (ad 10)) (C := RX2) (T := TX2) (N := 9) hx hb yX2 (fun _ h => h) hown hG.1 hP 0 rfl rfl 1 (by decide) f20 (fun _ h => h) rfl dX2_waysDecidedBy_13 ?_
  refine lv_iload_n hx hb dX2_waysDecidedBy_16 rfl (lv_at hl 2 rfl) ?_
  refine xrd (va_runV (As := [.int (nI j)]) (rest := [.int (nI 2)]) hF (c_X0_votes l D cI cS (ad 10) (ad 11) (ad 12) (ad 13) (ad 14) n fo ki st we lo j (by first | assumption | omega) (by first | assumption | omega) (by first | assumption | omega) (by first | assumption | omega) (by first | assumption | omega)) (cwV 1 hts gX2_waysDecidedBy_X0_votes rfl rfl rfl hV_X0_votes ⟨Nat.le_of_ble_eq_true rfl, Nat.le_of_ble_eq_true rfl⟩) (PR.preV hG (hP.sub (ws' := (wRow cI (ad 10) (ad 11) (ad 12) (ad 13) (ad 14) n fo ki st we lo)) [10, 11, 12, 13, 14] rfl) (ci := 0) rfl rfl) rfl rfl hl.1 rfl (lv_room (Nat.le_of_ble_eq_true rfl)) dX2_waysDecidedBy_17 ⟨Nat.le_refl _, Nat.le_refl _⟩) ?_
  refine xmulN hx hb dX2_waysDecidedBy_20 ?_
  refine lv_istore (lv' := [(4, .int (nI (2 * (voN fo ki we j)))), (3, .int (nI (viT n fo ki we (2 ^ n - 1)))), (0, .ref (ad 0)), (1, .int (nI j)), (2, .int (nI (2 ^ n)))]) hx hb dX2_waysDecidedBy_21 hl (by decide) rfl (fun ls hl => ?_)
  refine lv_iconst (v := nI 0) hx hb dX2_waysDecidedBy_23 (by decide) ?_
  refine lv_istore (lv' := [(5, .int (nI 0)), (4, .int (nI (2 * (voN fo ki we j)))), (3, .int (nI (viT n fo ki we (2 ^ n - 1)))), (0, .ref (ad 0)), (1, .int (nI j)), (2, .int (nI (2 ^ n)))]) hx hb dX2_waysDecidedBy_24 hl (by decide) rfl (fun ls hl => ?_)
  refine lv_iconst (v := nI 0) hx hb dX2_waysDecidedBy_26 (by decide) ?_
  refine lv_istore (lv' := [(6, .int (nI 0)), (5, .int (nI 0)), (4, .int (nI (2 * (voN fo ki we j)))), (3, .int (nI (viT n fo ki we (2 ^ n - 1)))), (0, .ref (ad 0)), (1, .int (nI j)), (2, .int (nI (2 ^ n)))]) hx hb dX2_waysDecidedBy_27 hl (by decide) rfl (fun ls hl => ?_)
  have K29 : ∀ (fuel : Nat) (i : Nat) (x5 : Int32), x5 = nI (cntN (wdbP n fo ki we j) i) → (i ≤ 2 ^ n) → (2 ^ n - i) < fuel → ∀ ls : Array Slot, lv_has ls 8 [(6, .int (nI i)), (5, .int x5), (4, .int (nI (2 * (voN fo ki we j)))), (3, .int (nI (viT n fo ki we (2 ^ n - 1)))), (0, .ref (ad 0)), (1, .int (nI j)), (2, .int (nI (2 ^ n)))] → W p l e ({ frames := 4, cells := 0, slots := 0, locals := 86 }) s m (([.ref (ad 0), .int (nI j), .int (nI (2 ^ n))] : List Value).toArray) below meth c s.heap [] 0 0 (MQ below (vp_Si (fun r => r = nI (cntN (wdbP n fo ki we j) (2 ^ n)))) (([.ref (ad 0), .int (nI j), .int (nI (2 ^ n))] : List Value).toArray) s 0 0 (fun _ => False)) (F0 m 29 ls []) := by
    intro fuel
    induction fuel with
    | zero => intro i x5 e_x5 hi hmu; exact absurd hmu (Nat.not_lt_zero _)
    | succ fuel ih =>
      intro i x5 e_x5 hi hmu ls hl
      subst e_x5
      have hp1 := viT_le (fo := fo) (ki := ki) hwe hn i
      have hp3 := viT_le (fo := fo) (ki := ki) hwe hn (2 ^ n - 1)
      refine lv_iload hx hb dX2_waysDecidedBy_29 (lv_at hl 0 rfl) ?_
      refine lv_iload_n hx hb dX2_waysDecidedBy_31 rfl (lv_at hl 6 rfl) ?_
      refine lv_icmp_ge (tgt := 88) hx hb dX2_waysDecidedBy_32 (by decide) (fun c_32 => ?_) (fun c_32 => ?_)
      ·
        replace c_32 := (nI_leI (a := 2 ^ n) (b := i) (by omega) (by omega)).mp c_32
        have hin : 2 ^ n = i := by omega
        subst hin
        refine lv_iload hx hb dX2_waysDecidedBy_88 (lv_at hl 1 rfl) ?_
        exact xretR hx hb hr hlk dX2_waysDecidedBy_90 (by rfl)
      ·
        replace c_32 := (not_congr (nI_leI (a := 2 ^ n) (b := i) (by omega) (by omega))).mp c_32
        refine lv_iload hx hb dX2_waysDecidedBy_35 (lv_at hl 0 rfl) ?_
        refine lv_iload_n hx hb dX2_waysDecidedBy_37 rfl (lv_at hl 5 rfl) ?_
        refine xrd (va_runS (As := [.int (nI i), .int (nI j)]) (rest := []) hF (c_X2_isIn l D cI cS i j (by first | assumption | omega) (by first | assumption | omega)) (va_cwS 2 hts gX2_waysDecidedBy_X2_isIn rfl rfl rfl hD_X2_isIn ⟨Nat.le_of_ble_eq_true rfl, Nat.le_of_ble_eq_true rfl⟩) (PR.pre hG (hP.sub (ws' := []) [] rfl)) rfl rfl hl.1 rfl (lv_room (Nat.le_of_ble_eq_true rfl)) dX2_waysDecidedBy_38 ⟨Nat.le_refl _, Nat.le_refl _⟩) ?_
        refine lv_if_ne (tgt := 82) hx hb dX2_waysDecidedBy_41 (by decide) (fun c_41 => ?_) (fun c_41 => ?_)
        ·
          replace c_41 := bI_n0.mp c_41
          refine lv_iinc (v := nI (i + 1)) (lv' := [(6, .int (nI (i + 1))), (5, .int (nI (cntN (wdbP n fo ki we j) i))), (4, .int (nI (2 * (voN fo ki we j)))), (3, .int (nI (viT n fo ki we (2 ^ n - 1)))), (0, .ref (ad 0)), (1, .int (nI j)), (2, .int (nI (2 ^ n)))]) hx hb dX2_waysDecidedBy_82 hl (k := 0) rfl xinc1 (by decide) rfl (fun ls hl => ?_)
          refine lv_goto (tgt := 29) hx hb dX2_waysDecidedBy_85 (by decide) ?_
          exact ih (i + 1) (nI (cntN (wdbP n fo ki we j) i)) (by first | (rw [cnt_n (P := wdbP n fo ki we j) (wd_1 c_41)]; done) | (rw [cnt_n (P := wdbP n fo ki we j) (wd_1 c_41)]; rfl)) (by omega) (by omega) ls (lv_sub hl [0, 1, 2, 3, 4, 5, 6] rfl)
        ·
          replace c_41 := bI_0.mp c_41
          refine lv_iconst (v := nI 2) hx hb dX2_waysDecidedBy_44 (by decide) ?_
          refine lv_aload_n hx hb dX2_waysDecidedBy_45 rfl (lv_at hl 4 rfl) ?_
          refine va_get (D := D) (ci := 2) (v := .ref (ad 10)) (C := RX2) (T := TX2) (N := 9) hx hb yX2 (fun _ h => h) hown hG.1 hP 0 rfl rfl 1 (by decide) f20 (fun _ h => h) rfl dX2_waysDecidedBy_46 ?_
          refine lv_iload hx hb dX2_waysDecidedBy_49 (lv_at hl 0 rfl) ?_
          refine xrd (va_runV (As := [.int (nI i)]) (rest := [.int (nI 2)]) hF (c_X0_votesIn l D cI cS (ad 10) (ad 11) (ad 12) (ad 13) (ad 14) n fo ki st we lo i (by first | assumption | omega) (by first | assumption | omega) (by first | assumption | omega) (by first | assumption | omega) (by first | assumption | omega)) (cwV 1 hts gX2_waysDecidedBy_X0_votesIn rfl rfl rfl hV_X0_votesIn ⟨Nat.le_of_ble_eq_true rfl, Nat.le_of_ble_eq_true rfl⟩) (PR.preV hG (hP.sub (ws' := (wRow cI (ad 10) (ad 11) (ad 12) (ad 13) (ad 14) n fo ki st we lo)) [10, 11, 12, 13, 14] rfl) (ci := 0) rfl rfl) rfl rfl hl.1 rfl (lv_room (Nat.le_of_ble_eq_true rfl)) dX2_waysDecidedBy_51 ⟨Nat.le_refl _, Nat.le_refl _⟩) ?_
          refine xtop (x' := nI (viT n fo ki we i)) (by rfl) ?_
          refine xmulN hx hb dX2_waysDecidedBy_54 ?_
          refine lv_istore (lv' := [(7, .int (nI (2 * (viT n fo ki we i)))), (6, .int (nI i)), (5, .int (nI (cntN (wdbP n fo ki we j) i))), (4, .int (nI (2 * (voN fo ki we j)))), (3, .int (nI (viT n fo ki we (2 ^ n - 1)))), (0, .ref (ad 0)), (1, .int (nI j)), (2, .int (nI (2 ^ n)))]) hx hb dX2_waysDecidedBy_55 hl (by decide) rfl (fun ls hl => ?_)
          refine lv_iload hx hb dX2_waysDecidedBy_57 (lv_at hl 2 rfl) ?_
          refine lv_iload hx hb dX2_waysDecidedBy_59 (lv_at hl 0 rfl) ?_
          refine lv_iload_n hx hb dX2_waysDecidedBy_61 rfl (lv_at hl 4 rfl) ?_
          refine lv_icmp_gt (tgt := 78) hx hb dX2_waysDecidedBy_62 (by decide) (fun c_62 => ?_) (fun c_62 => ?_)
          ·
            replace c_62 := (nI_ltI (a := viT n fo ki we (2 ^ n - 1)) (b := 2 * (viT n fo ki we i)) (by omega) (by omega)).mp c_62
            refine lv_iconst (v := nI 0) hx hb dX2_waysDecidedBy_78 (by decide) ?_
            refine xaddN hx hb dX2_waysDecidedBy_79 ?_
            refine lv_istore (lv' := [(5, .int (nI (cntN (wdbP n fo ki we j) i + 0))), (7, .int (nI (2 * (viT n fo ki we i)))), (6, .int (nI i)), (4, .int (nI (2 * (voN fo ki we j)))), (3, .int (nI (viT n fo ki we (2 ^ n - 1)))), (0, .ref (ad 0)), (1, .int (nI j)), (2, .int (nI (2 ^ n)))]) hx hb dX2_waysDecidedBy_80 hl (by decide) rfl (fun ls hl => ?_)
            refine lv_iinc (v := nI (i + 1)) (lv' := [(6, .int (nI (i + 1))), (5, .int (nI (cntN (wdbP n fo ki we j) i + 0))), (7, .int (nI (2 * (viT n fo ki we i)))), (4, .int (nI (2 * (voN fo ki we j)))), (3, .int (nI (viT n fo ki we (2 ^ n - 1)))), (0, .ref (ad 0)), (1, .int (nI j)), (2, .int (nI (2 ^ n)))]) hx hb dX2_waysDecidedBy_82 hl (k := 2) rfl xinc1 (by decide) rfl (fun ls hl => ?_)
            refine lv_goto (tgt := 29) hx hb dX2_waysDecidedBy_85 (by decide) ?_
            exact ih (i + 1) (nI (cntN (wdbP n fo ki we j) i + 0)) (by first | (rw [cnt_n (P := wdbP n fo ki we j) (wd_2 c_62)]; done) | (rw [cnt_n (P := wdbP n fo ki we j) (wd_2 c_62)]; rfl)) (by omega) (by omega) ls (lv_sub hl [0, 1, 3, 4, 5, 6, 7] rfl)
          ·
            replace c_62 := (not_congr (nI_ltI (a := viT n fo ki we (2 ^ n - 1)) (b := 2 * (viT n fo ki we i)) (by omega) (by omega))).mp c_62
            refine lv_iload hx hb dX2_waysDecidedBy_65 (lv_at hl 0 rfl) ?_
            refine lv_iload hx hb dX2_waysDecidedBy_67 (lv_at hl 3 rfl) ?_
            refine xaddN hx hb dX2_waysDecidedBy_69 ?_
            refine lv_iload_n hx hb dX2_waysDecidedBy_70 rfl (lv_at hl 4 rfl) ?_
            refine lv_icmp_le (tgt := 78) hx hb dX2_waysDecidedBy_71 (by decide) (fun c_71 => ?_) (fun c_71 => ?_)
            ·
              replace c_71 := (nI_leI (a := 2 * (viT n fo ki we i) + (2 * (voN fo ki we j))) (b := viT n fo ki we (2 ^ n - 1)) (by omega) (by omega)).mp c_71
              refine lv_iconst (v := nI 0) hx hb dX2_waysDecidedBy_78 (by decide) ?_
              refine xaddN hx hb dX2_waysDecidedBy_79 ?_
              refine lv_istore (lv' := [(5, .int (nI (cntN (wdbP n fo ki we j) i + 0))), (7, .int (nI (2 * (viT n fo ki we i)))), (6, .int (nI i)), (4, .int (nI (2 * (voN fo ki we j)))), (3, .int (nI (viT n fo ki we (2 ^ n - 1)))), (0, .ref (ad 0)), (1, .int (nI j)), (2, .int (nI (2 ^ n)))]) hx hb dX2_waysDecidedBy_80 hl (by decide) rfl (fun ls hl => ?_)
              refine lv_iinc (v := nI (i + 1)) (lv' := [(6, .int (nI (i + 1))), (5, .int (nI (cntN (wdbP n fo ki we j) i + 0))), (7, .int (nI (2 * (viT n fo ki we i)))), (4, .int (nI (2 * (voN fo ki we j)))), (3, .int (nI (viT n fo ki we (2 ^ n - 1)))), (0, .ref (ad 0)), (1, .int (nI j)), (2, .int (nI (2 ^ n)))]) hx hb dX2_waysDecidedBy_82 hl (k := 2) rfl xinc1 (by decide) rfl (fun ls hl => ?_)
              refine lv_goto (tgt := 29) hx hb dX2_waysDecidedBy_85 (by decide) ?_
              exact ih (i + 1) (nI (cntN (wdbP n fo ki we j) i + 0)) (by first | (rw [cnt_n (P := wdbP n fo ki we j) (wd_3 c_71)]; done) | (rw [cnt_n (P := wdbP n fo ki we j) (wd_3 c_71)]; rfl)) (by omega) (by omega) ls (lv_sub hl [0, 1, 3, 4, 5, 6, 7] rfl)
            ·
              replace c_71 := (not_congr (nI_leI (a := 2 * (viT n fo ki we i) + (2 * (voN fo ki we j))) (b := viT n fo ki we (2 ^ n - 1)) (by omega) (by omega))).mp c_71
              refine lv_iconst (v := nI 1) hx hb dX2_waysDecidedBy_74 (by decide) ?_
              refine lv_goto (tgt := 79) hx hb dX2_waysDecidedBy_75 (by decide) ?_
              refine xaddN hx hb dX2_waysDecidedBy_79 ?_
              refine lv_istore (lv' := [(5, .int (nI (cntN (wdbP n fo ki we j) i + 1))), (7, .int (nI (2 * (viT n fo ki we i)))), (6, .int (nI i)), (4, .int (nI (2 * (voN fo ki we j)))), (3, .int (nI (viT n fo ki we (2 ^ n - 1)))), (0, .ref (ad 0)), (1, .int (nI j)), (2, .int (nI (2 ^ n)))]) hx hb dX2_waysDecidedBy_80 hl (by decide) rfl (fun ls hl => ?_)
              refine lv_iinc (v := nI (i + 1)) (lv' := [(6, .int (nI (i + 1))), (5, .int (nI (cntN (wdbP n fo ki we j) i + 1))), (7, .int (nI (2 * (viT n fo ki we i)))), (4, .int (nI (2 * (voN fo ki we j)))), (3, .int (nI (viT n fo ki we (2 ^ n - 1)))), (0, .ref (ad 0)), (1, .int (nI j)), (2, .int (nI (2 ^ n)))]) hx hb dX2_waysDecidedBy_82 hl (k := 2) rfl xinc1 (by decide) rfl (fun ls hl => ?_)
              refine lv_goto (tgt := 29) hx hb dX2_waysDecidedBy_85 (by decide) ?_
              exact ih (i + 1) (nI (cntN (wdbP n fo ki we j) i + 1)) (by rw [cnt_y (P := wdbP n fo ki we j) (wd_y c_41 c_62 c_71)]) (by omega) (by omega) ls (lv_sub hl [0, 1, 3, 4, 5, 6, 7] rfl)
  exact K29 _ 0 (nI 0) (by first | rfl | exact Nat.zero_le _ | omega | assumption) (by first | rfl | exact Nat.zero_le _ | omega | assumption) (Nat.lt_succ_self _) ls (lv_sub hl [0, 1, 2, 3, 4, 5, 6] rfl)

set_option maxHeartbeats 4000000 in
set_option maxRecDepth 100000 in
theorem c_X2_odds (l : Launch) (D : va_G) (cI cS : ClassId) (ad : Nat → Nat) (sh : Nat → Bool) (sla : Nat → Nat) (sle : Nat → Nat) (sf : Nat → Nat → Int32) (n : Nat) (fo : Nat) (ki : Nat → Nat) (st : Nat → Nat) (we : Nat → Nat) (lo : Nat → Nat) (n2 : Nat) (go : Nat) (kj : Nat → Nat) (sj : Nat → Nat) (wj : Nat → Nat) (lj : Nat → Nat) (ti : Nat → Int32) (rc : Nat → Nat) (rv : Nat → Nat) (rd : Nat) (tr : Int32) (fa : Nat) (k : Int32) (v : Int32) (hn : n ≤ 8) (hfo : fo < 256) (hki : ∀ j, ki j ≤ 2) (hwe : ∀ j, we j ≤ 9) (hst : ∀ j, st j ≤ 3) (hlo : ∀ j, lo j ≤ 3) : Met l yX2_odds wsX2_odds ({ frames := 5, cells := 0, slots := 0, locals := 113 }) (PR D cI cS [.ref (ad 0), .int k, .int v] (wX cI cS ad sh sla sle sf n fo ki st we lo n2 go kj sj wj lj ti rc rv rd tr fa)) (vp_Sl (fun r => r = A_odds n fo ki we k v)) 0 0 (fun _ => False) := by
  refine startR (by decide) rfl (Nat.le_of_ble_eq_true rfl) ?_
  intro p e s m below meth c hx hb hr hts hown hlk hml hG hP ls hl
  have hl : lv_has ls 4 [(0, .ref (ad 0)), (1, .int k), (2, .int v)] := hl
  have f20 := hts (.fieldLink RX2 20 "ChairBallot" "now" "LChairBallot$Row;") (by decide +kernel)
  have f75 := hts (.fieldLink RX2 75 "ChairBallot$Row" "count" "I") (by decide +kernel)
  have yX0 : ∀ w ∈ u_ws RX0 TX0 6, w.before _ s = true := fun w h => hts w ((by decide +kernel : ∀ w ∈ wsX00, w ∈ wsX2_odds) w h)
  have yX2 : ∀ w ∈ u_ws RX2 TX2 9, w.before _ s = true := fun w h => hts w ((by decide +kernel : ∀ w ∈ wsX20, w ∈ wsX2_odds) w h)
  have hF : CallFix p m c cX2_odds 4 s _ wsX2_odds RX2 := ⟨hx, hb, hml, hown, hts⟩
  have h2n := two_pow_le hn
  refine lv_aload_n hx hb dX2_odds_0 rfl (lv_at hl 0 rfl) ?_
  refine xrd (va_runV (As := []) (rest := []) hF (c_X2_hasFront l D cI cS ad sh sla sle sf n fo ki st we lo n2 go kj sj wj lj ti rc rv rd tr fa (by first | assumption | omega)) (cwV 0 hts gX2_odds_X2_hasFront rfl rfl rfl hV_X2_hasFront ⟨Nat.le_of_ble_eq_true rfl, Nat.le_of_ble_eq_true rfl⟩) (PR.preV hG hP (ci := 2) rfl rfl) rfl rfl hl.1 rfl (lv_room (Nat.le_of_ble_eq_true rfl)) dX2_odds_1 ⟨Nat.le_refl _, Nat.le_refl _⟩) ?_
  refine lv_if_eq (tgt := 30) hx hb dX2_odds_4 (by decide) (fun c_4 => ?_) (fun c_4 => ?_)
  ·
    replace c_4 := bI_0.mp c_4
    replace c_4 := of_decide_eq_false c_4
    have hd : decide (0 < n) = false := decide_eq_false c_4
    refine lv_ldc2 (v := -9223372036854775808) hx hb hown (hts (.constantLong RX2 195 (-9223372036854775808)) (by decide +kernel)) dX2_odds_30 ?_
    exact xretRl hx hb hr hlk dX2_odds_33 (by first | (simp [A_odds, lostL, c_4, hd]; done) | (simp [A_odds, lostL, hasB_m1, c_4, hd]; done))
  ·
    replace c_4 := bI_n0.mp c_4
    replace c_4 := of_decide_eq_true c_4
    have hd : decide (0 < n) = true := decide_eq_true c_4
    refine lv_iload_n hx hb dX2_odds_7 rfl (lv_at hl 1 rfl) ?_
    refine lv_iconst (v := (-1)) hx hb dX2_odds_8 (by decide) ?_
    refine lv_icmp_eq (tgt := 23) hx hb dX2_odds_9 (by decide) (fun c_9 => ?_) (fun c_9 => ?_)
    ·
      subst c_9
      refine lv_iload_n hx hb dX2_odds_23 rfl (lv_at hl 2 rfl) ?_
      refine xrd (va_runS (As := [.int v]) (rest := []) hF (c_X2_isUpperOrLower l D cI cS v ) (va_cwS 1 hts gX2_odds_X2_isUpperOrLower rfl rfl rfl hD_X2_isUpperOrLower ⟨Nat.le_of_ble_eq_true rfl, Nat.le_of_ble_eq_true rfl⟩) (PR.pre hG (hP.sub (ws' := []) [] rfl)) rfl rfl hl.1 rfl (lv_room (Nat.le_of_ble_eq_true rfl)) dX2_odds_24 ⟨Nat.le_refl _, Nat.le_refl _⟩) ?_
      refine lv_if_ne (tgt := 34) hx hb dX2_odds_27 (by decide) (fun c_27 => ?_) (fun c_27 => ?_)
      ·
        replace c_27 := bI_n0.mp c_27
        obtain ⟨w, hw0, hw1, rfl⟩ := rgB_nat (by decide) c_27
        have hclw := cl8 (j := w) (by omega)
        refine lv_iconst (v := nI 1) hx hb dX2_odds_34 (by decide) ?_
        refine lv_aload_n hx hb dX2_odds_35 rfl (lv_at hl 0 rfl) ?_
        refine va_get (D := D) (ci := 2) (v := .ref (ad 10)) (C := RX2) (T := TX2) (N := 9) hx hb yX2 (fun _ h => h) hown hG.1 hP 0 rfl rfl 1 (by decide) f20 (fun _ h => h) rfl dX2_odds_36 ?_
        refine va_get (D := D) (ci := 0) (v := .int (nI n)) (C := RX0) (T := TX0) (N := 6) hx hb yX0 (fun _ h => h) hown hG.1 hP 10 rfl rfl 4 (by decide) f75 (fun _ h => h) rfl dX2_odds_39 ?_
        refine lv_ishl hx hb dX2_odds_42 ?_
        refine xtop (x' := nI (2 ^ n)) (by exact shl1 n (by omega)) ?_
        refine lv_istore_n (lv' := [(3, .int (nI (2 ^ n))), (0, .ref (ad 0)), (1, .int (-1)), (2, .int (nI w))]) hx hb dX2_odds_43 rfl hl (by decide) rfl (fun ls hl => ?_)
        refine lv_iload_n hx hb dX2_odds_44 rfl (lv_at hl 2 rfl) ?_
        refine lv_iconst (v := (-1)) hx hb dX2_odds_45 (by decide) ?_
        refine lv_icmp_ne (tgt := 60) hx hb dX2_odds_46 (by decide) (fun c_46 => ?_) (fun c_46 => ?_)
        · exact absurd rfl c_46
        ·
          refine lv_aload_n hx hb dX2_odds_49 rfl (lv_at hl 1 rfl) ?_
          refine lv_iload_n hx hb dX2_odds_50 rfl (lv_at hl 0 rfl) ?_
          refine xrd (va_runV (As := [.int (nI (2 ^ n))]) (rest := []) hF (c_X2_waysThatCarry l D cI cS ad sh sla sle sf n fo ki st we lo n2 go kj sj wj lj ti rc rv rd tr fa (by first | assumption | omega) (by first | assumption | omega) (by first | assumption | omega) (by first | assumption | omega) (by first | assumption | omega) (by first | assumption | omega)) (cwV 1 hts gX2_odds_X2_waysThatCarry rfl rfl rfl hV_X2_waysThatCarry ⟨Nat.le_of_ble_eq_true rfl, Nat.le_of_ble_eq_true rfl⟩) (PR.preV hG hP (ci := 2) rfl rfl) rfl rfl hl.1 rfl (lv_room (Nat.le_of_ble_eq_true rfl)) dX2_odds_51 ⟨Nat.le_refl _, Nat.le_refl _⟩) ?_
          refine lv_iload_n hx hb dX2_odds_54 rfl (lv_at hl 0 rfl) ?_
          refine lv_iload_n hx hb dX2_odds_55 rfl (lv_at hl 3 rfl) ?_
          refine xrdl (va_runS (As := [.int (nI (cntN (wtcP n fo ki we) (2 ^ n))), .int (nI (2 ^ n)), .int (nI w)]) (rest := []) hF (c_X2_share l D cI cS (cntN (wtcP n fo ki we) (2 ^ n)) (2 ^ n) n w (by omega) (by rfl) (by have h9 := cntN_le (wtcP n fo ki we) (2 ^ n); omega) (by first | assumption | omega)) (va_cwS 3 hts gX2_odds_X2_share rfl rfl rfl hD_X2_share ⟨Nat.le_of_ble_eq_true rfl, Nat.le_of_ble_eq_true rfl⟩) (PR.pre hG (hP.sub (ws' := []) [] rfl)) rfl rfl hl.1 rfl (lv_room (Nat.le_of_ble_eq_true rfl)) dX2_odds_56 ⟨Nat.le_refl _, Nat.le_refl _⟩) ?_
          exact xretRl hx hb hr hlk dX2_odds_59 (by simp [A_odds, lostL, c_4, hd, c_27, hclw, c_46])
      ·
        replace c_27 := bI_0.mp c_27
        refine lv_ldc2 (v := -9223372036854775808) hx hb hown (hts (.constantLong RX2 195 (-9223372036854775808)) (by decide +kernel)) dX2_odds_30 ?_
        exact xretRl hx hb hr hlk dX2_odds_33 (by first | (simp [A_odds, lostL, c_4, hd, c_27]; done) | (simp [A_odds, lostL, hasB_m1, c_4, hd, c_27]; done))
    ·
      refine lv_aload_n hx hb dX2_odds_12 rfl (lv_at hl 0 rfl) ?_
      refine va_get (D := D) (ci := 2) (v := .ref (ad 10)) (C := RX2) (T := TX2) (N := 9) hx hb yX2 (fun _ h => h) hown hG.1 hP 0 rfl rfl 1 (by decide) f20 (fun _ h => h) rfl dX2_odds_13 ?_
      refine lv_iload_n hx hb dX2_odds_16 rfl (lv_at hl 1 rfl) ?_
      refine xrd (va_runV (As := [.int k]) (rest := []) hF (c_X0_has l D cI cS (ad 10) (ad 11) (ad 12) (ad 13) (ad 14) n fo ki st we lo k (by first | assumption | omega)) (cwV 1 hts gX2_odds_X0_has rfl rfl rfl hV_X0_has ⟨Nat.le_of_ble_eq_true rfl, Nat.le_of_ble_eq_true rfl⟩) (PR.preV hG (hP.sub (ws' := (wRow cI (ad 10) (ad 11) (ad 12) (ad 13) (ad 14) n fo ki st we lo)) [10, 11, 12, 13, 14] rfl) (ci := 0) rfl rfl) rfl rfl hl.1 rfl (lv_room (Nat.le_of_ble_eq_true rfl)) dX2_odds_17 ⟨Nat.le_refl _, Nat.le_refl _⟩) ?_
      refine lv_if_eq (tgt := 30) hx hb dX2_odds_20 (by decide) (fun c_20 => ?_) (fun c_20 => ?_)
      ·
        replace c_20 := bI_0.mp c_20
        refine lv_ldc2 (v := -9223372036854775808) hx hb hown (hts (.constantLong RX2 195 (-9223372036854775808)) (by decide +kernel)) dX2_odds_30 ?_
        exact xretRl hx hb hr hlk dX2_odds_33 (by first | (simp [A_odds, lostL, c_4, hd, c_9, c_20]; done) | (simp [A_odds, lostL, hasB_m1, c_4, hd, c_9, c_20]; done))
      ·
        replace c_20 := bI_n0.mp c_20
        obtain ⟨j, hj, rfl⟩ := hasB_t c_20
        have hclj := cl8 (j := j) (by omega)
        have hm1 : ¬ nI j = -1 := nI_m1 (by omega)
        refine lv_iload_n hx hb dX2_odds_23 rfl (lv_at hl 2 rfl) ?_
        refine xrd (va_runS (As := [.int v]) (rest := []) hF (c_X2_isUpperOrLower l D cI cS v ) (va_cwS 1 hts gX2_odds_X2_isUpperOrLower rfl rfl rfl hD_X2_isUpperOrLower ⟨Nat.le_of_ble_eq_true rfl, Nat.le_of_ble_eq_true rfl⟩) (PR.pre hG (hP.sub (ws' := []) [] rfl)) rfl rfl hl.1 rfl (lv_room (Nat.le_of_ble_eq_true rfl)) dX2_odds_24 ⟨Nat.le_refl _, Nat.le_refl _⟩) ?_
        refine lv_if_ne (tgt := 34) hx hb dX2_odds_27 (by decide) (fun c_27 => ?_) (fun c_27 => ?_)
        ·
          replace c_27 := bI_n0.mp c_27
          obtain ⟨w, hw0, hw1, rfl⟩ := rgB_nat (by decide) c_27
          have hclw := cl8 (j := w) (by omega)
          refine lv_iconst (v := nI 1) hx hb dX2_odds_34 (by decide) ?_
          refine lv_aload_n hx hb dX2_odds_35 rfl (lv_at hl 0 rfl) ?_
          refine va_get (D := D) (ci := 2) (v := .ref (ad 10)) (C := RX2) (T := TX2) (N := 9) hx hb yX2 (fun _ h => h) hown hG.1 hP 0 rfl rfl 1 (by decide) f20 (fun _ h => h) rfl dX2_odds_36 ?_
          refine va_get (D := D) (ci := 0) (v := .int (nI n)) (C := RX0) (T := TX0) (N := 6) hx hb yX0 (fun _ h => h) hown hG.1 hP 10 rfl rfl 4 (by decide) f75 (fun _ h => h) rfl dX2_odds_39 ?_
          refine lv_ishl hx hb dX2_odds_42 ?_
          refine xtop (x' := nI (2 ^ n)) (by exact shl1 n (by omega)) ?_
          refine lv_istore_n (lv' := [(3, .int (nI (2 ^ n))), (0, .ref (ad 0)), (1, .int (nI j)), (2, .int (nI w))]) hx hb dX2_odds_43 rfl hl (by decide) rfl (fun ls hl => ?_)
          refine lv_iload_n hx hb dX2_odds_44 rfl (lv_at hl 2 rfl) ?_
          refine lv_iconst (v := (-1)) hx hb dX2_odds_45 (by decide) ?_
          refine lv_icmp_ne (tgt := 60) hx hb dX2_odds_46 (by decide) (fun c_46 => ?_) (fun c_46 => ?_)
          ·
            refine lv_aload_n hx hb dX2_odds_60 rfl (lv_at hl 1 rfl) ?_
            refine va_get (D := D) (ci := 2) (v := .ref (ad 10)) (C := RX2) (T := TX2) (N := 9) hx hb yX2 (fun _ h => h) hown hG.1 hP 0 rfl rfl 1 (by decide) f20 (fun _ h => h) rfl dX2_odds_61 ?_
            refine lv_iload_n hx hb dX2_odds_64 rfl (lv_at hl 2 rfl) ?_
            refine xrd (va_runV (As := [.int (nI j)]) (rest := []) hF (c_X0_isFolded l D cI cS (ad 10) (ad 11) (ad 12) (ad 13) (ad 14) n fo ki st we lo j (by first | assumption | omega) (by first | assumption | omega)) (cwV 1 hts gX2_odds_X0_isFolded rfl rfl rfl hV_X0_isFolded ⟨Nat.le_of_ble_eq_true rfl, Nat.le_of_ble_eq_true rfl⟩) (PR.preV hG (hP.sub (ws' := (wRow cI (ad 10) (ad 11) (ad 12) (ad 13) (ad 14) n fo ki st we lo)) [10, 11, 12, 13, 14] rfl) (ci := 0) rfl rfl) rfl rfl hl.1 rfl (lv_room (Nat.le_of_ble_eq_true rfl)) dX2_odds_65 ⟨Nat.le_refl _, Nat.le_refl _⟩) ?_
            refine lv_if_eq (tgt := 75) hx hb dX2_odds_68 (by decide) (fun c_68 => ?_) (fun c_68 => ?_)
            ·
              replace c_68 := bI_0.mp c_68
              refine lv_aload_n hx hb dX2_odds_75 rfl (lv_at hl 1 rfl) ?_
              refine lv_iload_n hx hb dX2_odds_76 rfl (lv_at hl 2 rfl) ?_
              refine lv_iload_n hx hb dX2_odds_77 rfl (lv_at hl 0 rfl) ?_
              refine xrd (va_runV (As := [.int (nI j), .int (nI (2 ^ n))]) (rest := []) hF (c_X2_waysDecidedBy l D cI cS ad sh sla sle sf n fo ki st we lo n2 go kj sj wj lj ti rc rv rd tr fa j (by first | assumption | omega) (by first | assumption | omega) (by first | assumption | omega) (by first | assumption | omega) (by first | assumption | omega) (by first | assumption | omega) (by first | assumption | omega)) (cwV 2 hts gX2_odds_X2_waysDecidedBy rfl rfl rfl hV_X2_waysDecidedBy ⟨Nat.le_of_ble_eq_true rfl, Nat.le_of_ble_eq_true rfl⟩) (PR.preV hG hP (ci := 2) rfl rfl) rfl rfl hl.1 rfl (lv_room (Nat.le_of_ble_eq_true rfl)) dX2_odds_78 ⟨Nat.le_refl _, Nat.le_refl _⟩) ?_
              refine lv_iload_n hx hb dX2_odds_81 rfl (lv_at hl 0 rfl) ?_
              refine lv_iconst (v := nI 2) hx hb dX2_odds_82 (by decide) ?_
              refine xdivN (x := 2 ^ n) (y := 2) (by omega) (by omega) (by omega) hx hb dX2_odds_83 ?_
              refine lv_iload_n hx hb dX2_odds_84 rfl (lv_at hl 3 rfl) ?_
              refine xrdl (va_runS (As := [.int (nI (cntN (wdbP n fo ki we j) (2 ^ n))), .int (nI ((2 ^ n) / 2)), .int (nI w)]) (rest := []) hF (c_X2_share l D cI cS (cntN (wdbP n fo ki we j) (2 ^ n)) ((2 ^ n) / 2) (n - 1) w (by omega) (by exact half_pow (by omega)) (by have h9 := cntN_le (wdbP n fo ki we j) (2 ^ n); omega) (by first | assumption | omega)) (va_cwS 3 hts gX2_odds_X2_share rfl rfl rfl hD_X2_share ⟨Nat.le_of_ble_eq_true rfl, Nat.le_of_ble_eq_true rfl⟩) (PR.pre hG (hP.sub (ws' := []) [] rfl)) rfl rfl hl.1 rfl (lv_room (Nat.le_of_ble_eq_true rfl)) dX2_odds_85 ⟨Nat.le_refl _, Nat.le_refl _⟩) ?_
              exact xretRl hx hb hr hlk dX2_odds_88 (by simp [A_odds, lostL, c_4, hd, c_9, c_20, hclj, hm1, c_27, hclw, c_46, c_68])
            ·
              replace c_68 := bI_n0.mp c_68
              refine lv_ldc2 (v := -9223372036854775808) hx hb hown (hts (.constantLong RX2 195 (-9223372036854775808)) (by decide +kernel)) dX2_odds_71 ?_
              exact xretRl hx hb hr hlk dX2_odds_74 (by simp [A_odds, lostL, c_4, hd, c_9, c_20, hclj, hm1, c_27, hclw, c_46, c_68])
          ·
            exact absurd c_46 (nI_m1 (by omega))
        ·
          replace c_27 := bI_0.mp c_27
          refine lv_ldc2 (v := -9223372036854775808) hx hb hown (hts (.constantLong RX2 195 (-9223372036854775808)) (by decide +kernel)) dX2_odds_30 ?_
          exact xretRl hx hb hr hlk dX2_odds_33 (by first | (simp [A_odds, lostL, c_4, hd, c_9, c_20, hclj, hm1, c_27]; done) | (simp [A_odds, lostL, hasB_m1, c_4, hd, c_9, c_20, hclj, hm1, c_27]; done))

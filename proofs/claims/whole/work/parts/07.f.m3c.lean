theorem hV_X3_areSo : yX3_areSo.cls = RX3 ∧ yX3_areSo.cls ≠ "java/lang/invoke/MethodHandle" ∧ yX3_areSo.cls ≠ "java/lang/invoke/VarHandle" ∧ (parseMethodDescriptor yX3_areSo.desc).map (fun d => d.parameters.length) = some 0 := by decide +kernel
theorem hD_X3_beginOf : yX3_beginOf.cls ≠ "java/lang/invoke/MethodHandle" ∧ yX3_beginOf.cls ≠ "java/lang/invoke/VarHandle" ∧ (parseMethodDescriptor yX3_beginOf.desc).map (fun d => d.parameters.length) = some 2 := by decide +kernel
theorem hD_X3_isAhead : yX3_isAhead.cls ≠ "java/lang/invoke/MethodHandle" ∧ yX3_isAhead.cls ≠ "java/lang/invoke/VarHandle" ∧ (parseMethodDescriptor yX3_isAhead.desc).map (fun d => d.parameters.length) = some 2 := by decide +kernel
theorem hV_X3_wonBy : yX3_wonBy.cls = RX3 ∧ yX3_wonBy.cls ≠ "java/lang/invoke/MethodHandle" ∧ yX3_wonBy.cls ≠ "java/lang/invoke/VarHandle" ∧ (parseMethodDescriptor yX3_wonBy.desc).map (fun d => d.parameters.length) = some 1 := by decide +kernel
set_option maxHeartbeats 4000000 in
set_option maxRecDepth 100000 in
theorem c_X3_areSo (l : Launch) (D : va_G) (cI cS : ClassId) (ad : Nat → Nat) (fa : Nat) (n : Nat) (fo : Nat) (ki : Nat → Nat) (st : Nat → Nat) (we : Nat → Nat) (lo : Nat → Nat) (ra : Nat) (rch : Nat) (q0 : Nat → Int32) (q1 : Nat → Int32) (q2 : Nat → Int32) (q3 : Nat → Int32) (fk : Nat) (fc : Nat → Nat) (rd : Nat) (rc : Nat → Nat) (rv : Nat → Nat) (sh : Nat → Bool) (sle : Nat → Nat) (sla : Nat → Nat) (bg : Nat → Int32) (hd : Nat → Int32) (tr : Int32) (hn : n ≤ 8) (hki : ∀ j, ki j ≤ 2) (hwe : ∀ j, we j ≤ 9) (hrd : rd ≤ 8) (hrc : ∀ r, r < rd → rc r < n) (hrv : ∀ j, rv j ≤ 10) : Met l yX3_areSo wsX3_areSo ({ frames := 1, cells := 0, slots := 0, locals := 22 }) (PR D cI cS [.ref (ad 0)] (wM cI ad fa n fo ki st we lo ra rch q0 q1 q2 q3 fk fc rd rc rv sh sle sla bg hd tr)) (vp_Si (fun r => r = bI (allB (arS ki we rc rv) rd))) 0 0 (fun _ => False) := by
  refine startR (by decide) rfl (Nat.le_of_ble_eq_true rfl) ?_
  intro p e s m below meth c hx hb hr hts hown hlk hml hG hP ls hl
  have hl : lv_has ls 3 [(0, .ref (ad 0))] := hl
  have f117 := hts (.fieldLink RX3 117 "ChairBallotModel" "readings" "I") (by decide +kernel)
  have f37 := hts (.fieldLink RX3 37 "ChairBallotModel" "readingOf" "[I") (by decide +kernel)
  have f40 := hts (.fieldLink RX3 40 "ChairBallotModel" "readingWas" "[I") (by decide +kernel)
  have yX3 : ∀ w ∈ u_ws RX3 TX3 23, w.before _ s = true := fun w h => hts w ((by decide +kernel : ∀ w ∈ wsX30, w ∈ wsX3_areSo) w h)
  have hF : CallFix p m c cX3_areSo 3 s _ wsX3_areSo RX3 := ⟨hx, hb, hml, hown, hts⟩
  refine lv_iconst (v := nI 1) hx hb dX3_areSo_0 (by decide) ?_
  refine lv_istore_n (lv' := [(1, .int (nI 1)), (0, .ref (ad 0))]) hx hb dX3_areSo_1 rfl hl (by decide) rfl (fun ls hl => ?_)
  refine lv_iconst (v := nI 0) hx hb dX3_areSo_2 (by decide) ?_
  refine lv_istore_n (lv' := [(2, .int (nI 0)), (1, .int (nI 1)), (0, .ref (ad 0))]) hx hb dX3_areSo_3 rfl hl (by decide) rfl (fun ls hl => ?_)
  have K4 : ∀ (fuel : Nat) (i : Nat) (x1 : Int32), x1 = bI (allB (arS ki we rc rv) i) → (i ≤ rd) → (rd - i) < fuel → ∀ ls : Array Slot, lv_has ls 3 [(2, .int (nI i)), (1, .int x1), (0, .ref (ad 0))] → W p l e ({ frames := 1, cells := 0, slots := 0, locals := 22 }) s m (([.ref (ad 0)] : List Value).toArray) below meth c s.heap [] 0 0 (MQ below (vp_Si (fun r => r = bI (allB (arS ki we rc rv) rd))) (([.ref (ad 0)] : List Value).toArray) s 0 0 (fun _ => False)) (F0 m 4 ls []) := by
    intro fuel
    induction fuel with
    | zero => intro i x1 e_x1 hi hmu; exact absurd hmu (Nat.not_lt_zero _)
    | succ fuel ih =>
      intro i x1 e_x1 hi hmu ls hl
      subst e_x1
      refine lv_iload_n hx hb dX3_areSo_4 rfl (lv_at hl 0 rfl) ?_
      refine lv_aload_n hx hb dX3_areSo_5 rfl (lv_at hl 2 rfl) ?_
      refine va_get (D := D) (ci := 3) (v := .int (nI rd)) (C := RX3) (T := TX3) (N := 23) hx hb yX3 (fun _ h => h) hown hG.1 hP 0 rfl rfl 15 (by decide) f117 (fun _ h => h) rfl dX3_areSo_6 ?_
      refine lv_icmp_ge (tgt := 47) hx hb dX3_areSo_9 (by decide) (fun c_9 => ?_) (fun c_9 => ?_)
      ·
        replace c_9 := (nI_leI (a := rd) (b := i) (by omega) (by omega)).mp c_9
        have hin : rd = i := by omega
        subst hin
        refine lv_iload_n hx hb dX3_areSo_47 rfl (lv_at hl 1 rfl) ?_
        exact xretRz hx hb hr hlk dX3_areSo_48 (allB (arS ki we rc rv) rd) rfl (by rfl)
      ·
        replace c_9 := (not_congr (nI_leI (a := rd) (b := i) (by omega) (by omega))).mp c_9
        have hri := hrc i (by omega)
        have hvi := hrv i
        have hv2 := vtA_le (k := ki (rc i)) (hwe (rc i))
        refine lv_iload_n hx hb dX3_areSo_12 rfl (lv_at hl 1 rfl) ?_
        refine lv_if_eq (tgt := 39) hx hb dX3_areSo_13 (by decide) (fun c_13 => ?_) (fun c_13 => ?_)
        ·
          replace c_13 := bI_0.mp c_13
          refine lv_iconst (v := nI 0) hx hb dX3_areSo_39 (by decide) ?_
          refine lv_istore_n (lv' := [(1, .int (nI 0)), (2, .int (nI i)), (0, .ref (ad 0))]) hx hb dX3_areSo_40 rfl hl (by decide) rfl (fun ls hl => ?_)
          refine lv_iinc (v := nI (i + 1)) (lv' := [(2, .int (nI (i + 1))), (1, .int (nI 0)), (0, .ref (ad 0))]) hx hb dX3_areSo_41 hl (k := 1) rfl xinc1 (by decide) rfl (fun ls hl => ?_)
          refine lv_goto (tgt := 4) hx hb dX3_areSo_44 (by decide) ?_
          exact ih (i + 1) (nI 0) (by simp [allB_s, arS, bI_true, bI_false, c_9, c_13]) (by omega) (by omega) ls (lv_sub hl [0, 1, 2] rfl)
        ·
          replace c_13 := bI_n0.mp c_13
          refine lv_aload_n hx hb dX3_areSo_16 rfl (lv_at hl 2 rfl) ?_
          refine lv_aload_n hx hb dX3_areSo_17 rfl (lv_at hl 2 rfl) ?_
          refine va_get (D := D) (ci := 3) (v := .ref (ad 10)) (C := RX3) (T := TX3) (N := 23) hx hb yX3 (fun _ h => h) hown hG.1 hP 0 rfl rfl 16 (by decide) f37 (fun _ h => h) rfl dX3_areSo_18 ?_
          refine lv_iload_n hx hb dX3_areSo_21 rfl (lv_at hl 0 rfl) ?_
          refine xaldN hx hb hG hP 10 rfl (i) rfl (by omega) (by decide) dX3_areSo_22 ?_
          refine xrd (va_runV (As := [.int (nI (rc i))]) (rest := []) hF (c_X3_votesOpen l D cI cS ad fa n fo ki st we lo ra rch q0 q1 q2 q3 fk fc rd rc rv sh sle sla bg hd tr (rc i) (by first | assumption | omega) (by first | assumption | omega) (by first | assumption | omega) (by first | assumption | omega)) (cwV 1 hts gX3_areSo_X3_votesOpen rfl rfl rfl hV_X3_votesOpen ⟨Nat.le_of_ble_eq_true rfl, Nat.le_of_ble_eq_true rfl⟩) (PR.preV hG hP (ci := 3) rfl rfl) rfl rfl hl.1 rfl (lv_room (Nat.le_of_ble_eq_true rfl)) dX3_areSo_23 ⟨Nat.le_refl _, Nat.le_refl _⟩) ?_
          refine lv_aload_n hx hb dX3_areSo_26 rfl (lv_at hl 2 rfl) ?_
          refine va_get (D := D) (ci := 3) (v := .ref (ad 11)) (C := RX3) (T := TX3) (N := 23) hx hb yX3 (fun _ h => h) hown hG.1 hP 0 rfl rfl 17 (by decide) f40 (fun _ h => h) rfl dX3_areSo_27 ?_
          refine lv_iload_n hx hb dX3_areSo_30 rfl (lv_at hl 0 rfl) ?_
          refine xaldN hx hb hG hP 11 rfl (i) rfl (by omega) (by decide) dX3_areSo_31 ?_
          refine lv_icmp_ne (tgt := 39) hx hb dX3_areSo_32 (by decide) (fun c_32 => ?_) (fun c_32 => ?_)
          ·
            replace c_32 := (not_congr (nI_eq (a := vtA (ki (rc i)) (we (rc i))) (b := rv i) (by omega) (by omega))).mp c_32
            refine lv_iconst (v := nI 0) hx hb dX3_areSo_39 (by decide) ?_
            refine lv_istore_n (lv' := [(1, .int (nI 0)), (2, .int (nI i)), (0, .ref (ad 0))]) hx hb dX3_areSo_40 rfl hl (by decide) rfl (fun ls hl => ?_)
            refine lv_iinc (v := nI (i + 1)) (lv' := [(2, .int (nI (i + 1))), (1, .int (nI 0)), (0, .ref (ad 0))]) hx hb dX3_areSo_41 hl (k := 1) rfl xinc1 (by decide) rfl (fun ls hl => ?_)
            refine lv_goto (tgt := 4) hx hb dX3_areSo_44 (by decide) ?_
            exact ih (i + 1) (nI 0) (by simp [allB_s, arS, bI_true, bI_false, c_9, c_13, c_32]) (by omega) (by omega) ls (lv_sub hl [0, 1, 2] rfl)
          ·
            replace c_32 := (nI_eq (a := vtA (ki (rc i)) (we (rc i))) (b := rv i) (by omega) (by omega)).mp c_32
            refine lv_iconst (v := nI 1) hx hb dX3_areSo_35 (by decide) ?_
            refine lv_goto (tgt := 40) hx hb dX3_areSo_36 (by decide) ?_
            refine lv_istore_n (lv' := [(1, .int (nI 1)), (2, .int (nI i)), (0, .ref (ad 0))]) hx hb dX3_areSo_40 rfl hl (by decide) rfl (fun ls hl => ?_)
            refine lv_iinc (v := nI (i + 1)) (lv' := [(2, .int (nI (i + 1))), (1, .int (nI 1)), (0, .ref (ad 0))]) hx hb dX3_areSo_41 hl (k := 1) rfl xinc1 (by decide) rfl (fun ls hl => ?_)
            refine lv_goto (tgt := 4) hx hb dX3_areSo_44 (by decide) ?_
            exact ih (i + 1) (nI 1) (by simp [allB_s, arS, bI_true, bI_false, c_9, c_13, c_32]) (by omega) (by omega) ls (lv_sub hl [0, 1, 2] rfl)
  exact K4 _ 0 (nI 1) (by first | rfl | exact Nat.zero_le _) (by first | rfl | exact Nat.zero_le _) (Nat.lt_succ_self _) ls (lv_sub hl [0, 1, 2] rfl)

set_option maxHeartbeats 4000000 in
set_option maxRecDepth 100000 in
theorem c_X3_weights (l : Launch) (D : va_G) (cI cS : ClassId) (ad : Nat → Nat) (fa : Nat) (n : Nat) (fo : Nat) (ki : Nat → Nat) (st : Nat → Nat) (we : Nat → Nat) (lo : Nat → Nat) (ra : Nat) (rch : Nat) (q0 : Nat → Int32) (q1 : Nat → Int32) (q2 : Nat → Int32) (q3 : Nat → Int32) (fk : Nat) (fc : Nat → Nat) (rd : Nat) (rc : Nat → Nat) (rv : Nat → Nat) (sh : Nat → Bool) (sle : Nat → Nat) (sla : Nat → Nat) (bg : Nat → Int32) (hd : Nat → Int32) (tr : Int32) (k : Int32) (hnd : nd (adM ad)) (hn : n ≤ 8) (hki : ∀ j, ki j ≤ 2) (hwe : ∀ j, we j ≤ 9) (hrd : rd ≤ 8) (hrc : ∀ r, r < rd → rc r < n) (hrv : ∀ j, rv j ≤ 10) : Met l yX3_weights wsX3_weights ({ frames := 2, cells := 0, slots := 0, locals := 46 }) (PR D cI cS [.ref (ad 0), .int k] (wM cI ad fa n fo ki st we lo ra rch q0 q1 q2 q3 fk fc rd rc rv sh sle sla bg hd tr)) (va_Qi (fun r (zz : Unit) => r = A_weights n rd rc rv ki we k) (fun (zz : Unit) t => va_P D vwCl (wM cI ad fa n fo ki st we lo ra rch q0 q1 q2 q3 fk fc rd rc rv sh sle sla bg hd tr) t.heap) (AW (adM ad))) 0 0 (AW (adM ad)) := by
  refine startM (by decide) rfl (Nat.le_of_ble_eq_true rfl) hnd rfl ?_
  intro p e s m below meth c hx hb hr hts hown hlk hml hG hP hD hS ls hl
  have hl : lv_has ls 5 [(0, .ref (ad 0)), (1, .int k)] := hl
  have f16 := hts (.fieldLink RX3 16 "ChairBallotModel" "weightOf" "[I") (by decide +kernel)
  have yX3 : ∀ w ∈ u_ws RX3 TX3 23, w.before _ s = true := fun w h => hts w ((by decide +kernel : ∀ w ∈ wsX30, w ∈ wsX3_weights) w h)
  have hF : CallFix p m c cX3_weights 5 s _ wsX3_weights RX3 := ⟨hx, hb, hml, hown, hts⟩
  refine lv_aload_n hx hb dX3_weights_0 rfl (lv_at hl 0 rfl) ?_
  refine lv_iload_n hx hb dX3_weights_1 rfl (lv_at hl 1 rfl) ?_
  refine xrd (va_runV (As := [.int k]) (rest := []) hF (c_X3_noChair l D cI cS ad fa n fo ki st we lo ra rch q0 q1 q2 q3 fk fc rd rc rv sh sle sla bg hd tr k (by first | assumption | omega)) (cwV 1 hts gX3_weights_X3_noChair rfl rfl rfl hV_X3_noChair ⟨Nat.le_of_ble_eq_true rfl, Nat.le_of_ble_eq_true rfl⟩) (PR.preV hG hP (ci := 3) rfl rfl) rfl rfl hl.1 rfl (lv_room (Nat.le_of_ble_eq_true rfl)) dX3_weights_2 ⟨Nat.le_refl _, Nat.le_refl _⟩) ?_
  refine lv_if_eq (tgt := 10) hx hb dX3_weights_5 (by decide) (fun c_5 => ?_) (fun c_5 => ?_)
  ·
    replace c_5 := bI_0.mp c_5
    replace c_5 := (by simpa using c_5 : (hasB n k) = true)
    obtain ⟨j, hj, rfl⟩ := hasB_t c_5
    have hclj := cl8 (j := j) (by omega)
    refine lv_aload_n hx hb dX3_weights_10 rfl (lv_at hl 0 rfl) ?_
    refine va_get (D := D) (ci := 3) (v := .ref (ad 3)) (C := RX3) (T := TX3) (N := 23) hx hb yX3 (fun _ h => h) hown hG.1 hP 0 rfl rfl 5 (by decide) f16 (fun _ h => h) rfl dX3_weights_11 ?_
    refine lv_iload_n hx hb dX3_weights_14 rfl (lv_at hl 1 rfl) ?_
    refine xaldN hx hb hG hP 3 rfl (j) rfl (by omega) (by decide) dX3_weights_15 ?_
    refine lv_istore_n (lv' := [(2, .int (nI (we j))), (0, .ref (ad 0)), (1, .int (nI j))]) hx hb dX3_weights_16 rfl hl (by decide) rfl (fun ls hl => ?_)
    refine lv_iconst (v := nI 0) hx hb dX3_weights_17 (by decide) ?_
    refine lv_istore_n (lv' := [(3, .int (nI 0)), (2, .int (nI (we j))), (0, .ref (ad 0)), (1, .int (nI j))]) hx hb dX3_weights_18 rfl hl (by decide) rfl (fun ls hl => ?_)
    refine lv_iconst (v := nI 1) hx hb dX3_weights_19 (by decide) ?_
    refine lv_istore (lv' := [(4, .int (nI 1)), (3, .int (nI 0)), (2, .int (nI (we j))), (0, .ref (ad 0)), (1, .int (nI j))]) hx hb dX3_weights_20 hl (by decide) rfl (fun ls hl => ?_)
    have K22 : ∀ (fuel : Nat) (i : Nat) (we_22 : Nat → Nat) (x3 : Int32), x3 = nI (setN (fun v => decide (1 ≤ v) && asoB rd rc rv ki we j (ki j) v) i) → (1 ≤ i) → (i ≤ 10) → (∀ x, ¬ x = j → we_22 x = we x) → (10 - i) < fuel → ∀ (H : Heap) (locs : List Loc), va_P D vwCl (wM cI ad fa n fo ki st we_22 lo ra rch q0 q1 q2 q3 fk fc rd rc rv sh sle sla bg hd tr) H → va_D (AW (adM ad)) (wM cI ad fa n fo ki st we_22 lo ra rch q0 q1 q2 q3 fk fc rd rc rv sh sle sla bg hd tr) → va_S (AW (adM ad)) s.heap H locs → ∀ ls : Array Slot, lv_has ls 5 [(4, .int (nI i)), (3, .int x3), (2, .int (nI (we j))), (0, .ref (ad 0)), (1, .int (nI j))] → W p l e ({ frames := 2, cells := 0, slots := 0, locals := 46 }) s m (([.ref (ad 0), .int (nI j)] : List Value).toArray) below meth c H locs 0 0 (MQ below (va_Qi (fun r (zz : Unit) => r = A_weights n rd rc rv ki we (nI j)) (fun (zz : Unit) t => va_P D vwCl (wM cI ad fa n fo ki st we lo ra rch q0 q1 q2 q3 fk fc rd rc rv sh sle sla bg hd tr) t.heap) (AW (adM ad))) (([.ref (ad 0), .int (nI j)] : List Value).toArray) s 0 0 (AW (adM ad))) (F0 m 22 ls []) := by
      intro fuel
      induction fuel with
      | zero => intro i we_22 x3 e_x3 hi1 hi hup hmu; exact absurd hmu (Nat.not_lt_zero _)
      | succ fuel ih =>
        intro i we_22 x3 e_x3 hi1 hi hup hmu H locs hP hD hS ls hl
        subst e_x3
        refine lv_iload hx hb dX3_weights_22 (lv_at hl 0 rfl) ?_
        refine lv_bipush (v := nI 10) hx hb dX3_weights_24 (by decide) ?_
        refine lv_icmp_ge (tgt := 61) hx hb dX3_weights_26 (by decide) (fun c_26 => ?_) (fun c_26 => ?_)
        ·
          replace c_26 := (nI_leI (a := 10) (b := i) (by omega) (by omega)).mp c_26
          have hin : 10 = i := by omega
          subst hin
          refine lv_aload_n hx hb dX3_weights_61 rfl (lv_at hl 3 rfl) ?_
          refine va_get (D := D) (ci := 3) (v := .ref (ad 3)) (C := RX3) (T := TX3) (N := 23) hx hb yX3 (fun _ h => h) hown hG.1 hP 0 rfl rfl 5 (by decide) f16 (fun _ h => h) rfl dX3_weights_62 ?_
          refine lv_iload_n hx hb dX3_weights_65 rfl (lv_at hl 4 rfl) ?_
          refine lv_iload_n hx hb dX3_weights_66 rfl (lv_at hl 2 rfl) ?_
          refine xastN hx hb hG hP hD hS 3 rfl (j) (we j) rfl rfl (by omega) (by decide) dX3_weights_67 (fun H locs hP hD hS => ?_)
          have hP : va_P D vwCl (wM cI ad fa n fo ki st (updN we_22 j (we j)) lo ra rch q0 q1 q2 q3 fk fc rd rc rv sh sle sla bg hd tr) H := hP
          have hD : va_D (AW (adM ad)) (wM cI ad fa n fo ki st (updN we_22 j (we j)) lo ra rch q0 q1 q2 q3 fk fc rd rc rv sh sle sla bg hd tr) := hD
          rw [updN_back hup] at hP hD
          have hP : va_P D vwCl (wM cI ad fa n fo ki st we lo ra rch q0 q1 q2 q3 fk fc rd rc rv sh sle sla bg hd tr) H := hP
          have hD : va_D (AW (adM ad)) (wM cI ad fa n fo ki st we lo ra rch q0 q1 q2 q3 fk fc rd rc rv sh sle sla bg hd tr) := hD
          refine lv_iload_n hx hb dX3_weights_68 rfl (lv_at hl 1 rfl) ?_
          exact xretM hx hb hr hlk dX3_weights_69 hS () (by simp [A_weights, c_5, hclj, c_26]) (fun t ht => by rw [ht]; exact hP)
        ·
          replace c_26 := (not_congr (nI_leI (a := 10) (b := i) (by omega) (by omega))).mp c_26
          refine lv_aload_n hx hb dX3_weights_29 rfl (lv_at hl 3 rfl) ?_
          refine va_get (D := D) (ci := 3) (v := .ref (ad 3)) (C := RX3) (T := TX3) (N := 23) hx hb yX3 (fun _ h => h) hown hG.1 hP 0 rfl rfl 5 (by decide) f16 (fun _ h => h) rfl dX3_weights_30 ?_
          refine lv_iload_n hx hb dX3_weights_33 rfl (lv_at hl 4 rfl) ?_
          refine lv_iload hx hb dX3_weights_34 (lv_at hl 0 rfl) ?_
          refine xastN hx hb hG hP hD hS 3 rfl (j) (i) rfl rfl (by omega) (by decide) dX3_weights_36 (fun H locs hP hD hS => ?_)
          have hP : va_P D vwCl (wM cI ad fa n fo ki st (updN we_22 j i) lo ra rch q0 q1 q2 q3 fk fc rd rc rv sh sle sla bg hd tr) H := hP
          have hD : va_D (AW (adM ad)) (wM cI ad fa n fo ki st (updN we_22 j i) lo ra rch q0 q1 q2 q3 fk fc rd rc rv sh sle sla bg hd tr) := hD
          rw [updN_up hup] at hP hD
          have hP : va_P D vwCl (wM cI ad fa n fo ki st (updN we j i) lo ra rch q0 q1 q2 q3 fk fc rd rc rv sh sle sla bg hd tr) H := hP
          have hD : va_D (AW (adM ad)) (wM cI ad fa n fo ki st (updN we j i) lo ra rch q0 q1 q2 q3 fk fc rd rc rv sh sle sla bg hd tr) := hD
          refine lv_iload_n hx hb dX3_weights_37 rfl (lv_at hl 1 rfl) ?_
          refine lv_aload_n hx hb dX3_weights_38 rfl (lv_at hl 3 rfl) ?_
          refine xrd (va_runV (As := []) (rest := [.int (nI (setN (fun v => decide (1 ≤ v) && asoB rd rc rv ki we j (ki j) v) i))]) hF (c_X3_areSo l D cI cS ad fa n fo ki st (updN we j i) lo ra rch q0 q1 q2 q3 fk fc rd rc rv sh sle sla bg hd tr (by first | assumption | omega) (by first | assumption | omega) (by exact updN_b hwe (by omega)) (by first | assumption | omega) (by first | assumption | omega) (by first | assumption | omega)) (cwV 0 hts gX3_weights_X3_areSo rfl rfl rfl hV_X3_areSo ⟨Nat.le_of_ble_eq_true rfl, Nat.le_of_ble_eq_true rfl⟩) (PR.preV hG hP (ci := 3) rfl rfl) rfl rfl hl.1 rfl (lv_room (Nat.le_of_ble_eq_true rfl)) dX3_weights_39 ⟨Nat.le_refl _, Nat.le_refl _⟩) ?_
          refine xtop (x' := bI (asoB rd rc rv ki we j (ki j) i)) (by rw [ar_w]) ?_
          refine lv_if_eq (tgt := 52) hx hb dX3_weights_42 (by decide) (fun c_42 => ?_) (fun c_42 => ?_)
          ·
            replace c_42 := bI_0.mp c_42
            refine lv_iconst (v := nI 0) hx hb dX3_weights_52 (by decide) ?_
            refine lv_ior hx hb dX3_weights_53 ?_
            refine xtop (x' := nI ((setN (fun v => decide (1 ≤ v) && asoB rd rc rv ki we j (ki j) v) i) ||| 0)) (nI_or _ _) ?_
            refine lv_istore_n (lv' := [(3, .int (nI ((setN (fun v => decide (1 ≤ v) && asoB rd rc rv ki we j (ki j) v) i) ||| 0))), (4, .int (nI i)), (2, .int (nI (we j))), (0, .ref (ad 0)), (1, .int (nI j))]) hx hb dX3_weights_54 rfl hl (by decide) rfl (fun ls hl => ?_)
            refine lv_iinc (v := nI (i + 1)) (lv' := [(4, .int (nI (i + 1))), (3, .int (nI ((setN (fun v => decide (1 ≤ v) && asoB rd rc rv ki we j (ki j) v) i) ||| 0))), (2, .int (nI (we j))), (0, .ref (ad 0)), (1, .int (nI j))]) hx hb dX3_weights_55 hl (k := 1) rfl xinc1 (by decide) rfl (fun ls hl => ?_)
            refine lv_goto (tgt := 22) hx hb dX3_weights_58 (by decide) ?_
            exact ih (i + 1) (updN we j i) (nI ((setN (fun v => decide (1 ≤ v) && asoB rd rc rv ki we j (ki j) v) i) ||| 0)) (by simp [setN, hi1, c_5, hclj, c_26, c_42]) (by omega) (by omega) (by exact updN_o) (by omega) _ _ hP hD hS ls (lv_sub hl [0, 1, 2, 3, 4] rfl)
          ·
            replace c_42 := bI_n0.mp c_42
            refine lv_iconst (v := nI 1) hx hb dX3_weights_45 (by decide) ?_
            refine lv_iload hx hb dX3_weights_46 (lv_at hl 0 rfl) ?_
            refine lv_ishl hx hb dX3_weights_48 ?_
            refine xtop (x' := nI (2 ^ i)) (by exact shl1 i (by omega)) ?_
            refine lv_goto (tgt := 53) hx hb dX3_weights_49 (by decide) ?_
            refine lv_ior hx hb dX3_weights_53 ?_
            refine xtop (x' := nI ((setN (fun v => decide (1 ≤ v) && asoB rd rc rv ki we j (ki j) v) i) ||| (2 ^ i))) (nI_or _ _) ?_
            refine lv_istore_n (lv' := [(3, .int (nI ((setN (fun v => decide (1 ≤ v) && asoB rd rc rv ki we j (ki j) v) i) ||| (2 ^ i)))), (4, .int (nI i)), (2, .int (nI (we j))), (0, .ref (ad 0)), (1, .int (nI j))]) hx hb dX3_weights_54 rfl hl (by decide) rfl (fun ls hl => ?_)
            refine lv_iinc (v := nI (i + 1)) (lv' := [(4, .int (nI (i + 1))), (3, .int (nI ((setN (fun v => decide (1 ≤ v) && asoB rd rc rv ki we j (ki j) v) i) ||| (2 ^ i)))), (2, .int (nI (we j))), (0, .ref (ad 0)), (1, .int (nI j))]) hx hb dX3_weights_55 hl (k := 1) rfl xinc1 (by decide) rfl (fun ls hl => ?_)
            refine lv_goto (tgt := 22) hx hb dX3_weights_58 (by decide) ?_
            exact ih (i + 1) (updN we j i) (nI ((setN (fun v => decide (1 ≤ v) && asoB rd rc rv ki we j (ki j) v) i) ||| (2 ^ i))) (by simp [setN, hi1, c_5, hclj, c_26, c_42]) (by omega) (by omega) (by exact updN_o) (by omega) _ _ hP hD hS ls (lv_sub hl [0, 1, 2, 3, 4] rfl)
    exact K22 _ 1 we (nI 0) (by first | omega | (exact fun _ _ => rfl) | (simp [setN])) (by first | omega | (exact fun _ _ => rfl) | (simp [setN])) (by first | omega | (exact fun _ _ => rfl) | (simp [setN])) (by first | omega | (exact fun _ _ => rfl) | (simp [setN])) (Nat.lt_succ_self _) _ _ hP hD hS ls (lv_sub hl [0, 1, 2, 3, 4] rfl)
  ·
    replace c_5 := bI_n0.mp c_5
    replace c_5 := (by simpa using c_5 : (hasB n k) = false)
    refine lv_iconst (v := (-1)) hx hb dX3_weights_8 (by decide) ?_
    exact xretM hx hb hr hlk dX3_weights_9 hS () (by simp [A_weights, c_5]) (fun t ht => by rw [ht]; exact hP)

set_option maxHeartbeats 4000000 in
set_option maxRecDepth 100000 in
theorem c_X3_kinds (l : Launch) (D : va_G) (cI cS : ClassId) (ad : Nat → Nat) (fa : Nat) (n : Nat) (fo : Nat) (ki : Nat → Nat) (st : Nat → Nat) (we : Nat → Nat) (lo : Nat → Nat) (ra : Nat) (rch : Nat) (q0 : Nat → Int32) (q1 : Nat → Int32) (q2 : Nat → Int32) (q3 : Nat → Int32) (fk : Nat) (fc : Nat → Nat) (rd : Nat) (rc : Nat → Nat) (rv : Nat → Nat) (sh : Nat → Bool) (sle : Nat → Nat) (sla : Nat → Nat) (bg : Nat → Int32) (hd : Nat → Int32) (tr : Int32) (k : Int32) (hnd : nd (adM ad)) (hn : n ≤ 8) (hki : ∀ j, ki j ≤ 2) (hwe : ∀ j, we j ≤ 9) (hrd : rd ≤ 8) (hrc : ∀ r, r < rd → rc r < n) (hrv : ∀ j, rv j ≤ 10) : Met l yX3_kinds wsX3_kinds ({ frames := 2, cells := 0, slots := 0, locals := 46 }) (PR D cI cS [.ref (ad 0), .int k] (wM cI ad fa n fo ki st we lo ra rch q0 q1 q2 q3 fk fc rd rc rv sh sle sla bg hd tr)) (va_Qi (fun r (zz : Unit) => r = A_kinds n rd rc rv ki we k) (fun (zz : Unit) t => va_P D vwCl (wM cI ad fa n fo ki st we lo ra rch q0 q1 q2 q3 fk fc rd rc rv sh sle sla bg hd tr) t.heap) (AW (adM ad))) 0 0 (AW (adM ad)) := by
  refine startM (by decide) rfl (Nat.le_of_ble_eq_true rfl) hnd rfl ?_
  intro p e s m below meth c hx hb hr hts hown hlk hml hG hP hD hS ls hl
  have hl : lv_has ls 5 [(0, .ref (ad 0)), (1, .int k)] := hl
  have f7 := hts (.fieldLink RX3 7 "ChairBallotModel" "kindOf" "[I") (by decide +kernel)
  have yX3 : ∀ w ∈ u_ws RX3 TX3 23, w.before _ s = true := fun w h => hts w ((by decide +kernel : ∀ w ∈ wsX30, w ∈ wsX3_kinds) w h)
  have hF : CallFix p m c cX3_kinds 5 s _ wsX3_kinds RX3 := ⟨hx, hb, hml, hown, hts⟩
  refine lv_aload_n hx hb dX3_kinds_0 rfl (lv_at hl 0 rfl) ?_
  refine lv_iload_n hx hb dX3_kinds_1 rfl (lv_at hl 1 rfl) ?_
  refine xrd (va_runV (As := [.int k]) (rest := []) hF (c_X3_noChair l D cI cS ad fa n fo ki st we lo ra rch q0 q1 q2 q3 fk fc rd rc rv sh sle sla bg hd tr k (by first | assumption | omega)) (cwV 1 hts gX3_kinds_X3_noChair rfl rfl rfl hV_X3_noChair ⟨Nat.le_of_ble_eq_true rfl, Nat.le_of_ble_eq_true rfl⟩) (PR.preV hG hP (ci := 3) rfl rfl) rfl rfl hl.1 rfl (lv_room (Nat.le_of_ble_eq_true rfl)) dX3_kinds_2 ⟨Nat.le_refl _, Nat.le_refl _⟩) ?_
  refine lv_if_eq (tgt := 10) hx hb dX3_kinds_5 (by decide) (fun c_5 => ?_) (fun c_5 => ?_)
  ·
    replace c_5 := bI_0.mp c_5
    replace c_5 := (by simpa using c_5 : (hasB n k) = true)
    obtain ⟨j, hj, rfl⟩ := hasB_t c_5
    have hclj := cl8 (j := j) (by omega)
    refine lv_aload_n hx hb dX3_kinds_10 rfl (lv_at hl 0 rfl) ?_
    refine va_get (D := D) (ci := 3) (v := .ref (ad 1)) (C := RX3) (T := TX3) (N := 23) hx hb yX3 (fun _ h => h) hown hG.1 hP 0 rfl rfl 3 (by decide) f7 (fun _ h => h) rfl dX3_kinds_11 ?_
    refine lv_iload_n hx hb dX3_kinds_14 rfl (lv_at hl 1 rfl) ?_
    refine xaldN hx hb hG hP 1 rfl (j) rfl (by omega) (by decide) dX3_kinds_15 ?_
    refine lv_istore_n (lv' := [(2, .int (nI (ki j))), (0, .ref (ad 0)), (1, .int (nI j))]) hx hb dX3_kinds_16 rfl hl (by decide) rfl (fun ls hl => ?_)
    refine lv_iconst (v := nI 0) hx hb dX3_kinds_17 (by decide) ?_
    refine lv_istore_n (lv' := [(3, .int (nI 0)), (2, .int (nI (ki j))), (0, .ref (ad 0)), (1, .int (nI j))]) hx hb dX3_kinds_18 rfl hl (by decide) rfl (fun ls hl => ?_)
    refine lv_iconst (v := nI 0) hx hb dX3_kinds_19 (by decide) ?_
    refine lv_istore (lv' := [(4, .int (nI 0)), (3, .int (nI 0)), (2, .int (nI (ki j))), (0, .ref (ad 0)), (1, .int (nI j))]) hx hb dX3_kinds_20 hl (by decide) rfl (fun ls hl => ?_)
    have K22 : ∀ (fuel : Nat) (i : Nat) (ki_22 : Nat → Nat) (x3 : Int32), x3 = nI (setN (fun v => asoB rd rc rv ki we j v (we j)) i) → (i ≤ 3) → (∀ x, ¬ x = j → ki_22 x = ki x) → (3 - i) < fuel → ∀ (H : Heap) (locs : List Loc), va_P D vwCl (wM cI ad fa n fo ki_22 st we lo ra rch q0 q1 q2 q3 fk fc rd rc rv sh sle sla bg hd tr) H → va_D (AW (adM ad)) (wM cI ad fa n fo ki_22 st we lo ra rch q0 q1 q2 q3 fk fc rd rc rv sh sle sla bg hd tr) → va_S (AW (adM ad)) s.heap H locs → ∀ ls : Array Slot, lv_has ls 5 [(4, .int (nI i)), (3, .int x3), (2, .int (nI (ki j))), (0, .ref (ad 0)), (1, .int (nI j))] → W p l e ({ frames := 2, cells := 0, slots := 0, locals := 46 }) s m (([.ref (ad 0), .int (nI j)] : List Value).toArray) below meth c H locs 0 0 (MQ below (va_Qi (fun r (zz : Unit) => r = A_kinds n rd rc rv ki we (nI j)) (fun (zz : Unit) t => va_P D vwCl (wM cI ad fa n fo ki st we lo ra rch q0 q1 q2 q3 fk fc rd rc rv sh sle sla bg hd tr) t.heap) (AW (adM ad))) (([.ref (ad 0), .int (nI j)] : List Value).toArray) s 0 0 (AW (adM ad))) (F0 m 22 ls []) := by
      intro fuel
      induction fuel with
      | zero => intro i ki_22 x3 e_x3 hi hup hmu; exact absurd hmu (Nat.not_lt_zero _)
      | succ fuel ih =>
        intro i ki_22 x3 e_x3 hi hup hmu H locs hP hD hS ls hl
        subst e_x3
        refine lv_iload hx hb dX3_kinds_22 (lv_at hl 0 rfl) ?_
        refine lv_iconst (v := nI 3) hx hb dX3_kinds_24 (by decide) ?_
        refine lv_icmp_ge (tgt := 60) hx hb dX3_kinds_25 (by decide) (fun c_25 => ?_) (fun c_25 => ?_)
        ·
          replace c_25 := (nI_leI (a := 3) (b := i) (by omega) (by omega)).mp c_25
          have hin : 3 = i := by omega
          subst hin
          refine lv_aload_n hx hb dX3_kinds_60 rfl (lv_at hl 3 rfl) ?_
          refine va_get (D := D) (ci := 3) (v := .ref (ad 1)) (C := RX3) (T := TX3) (N := 23) hx hb yX3 (fun _ h => h) hown hG.1 hP 0 rfl rfl 3 (by decide) f7 (fun _ h => h) rfl dX3_kinds_61 ?_
          refine lv_iload_n hx hb dX3_kinds_64 rfl (lv_at hl 4 rfl) ?_
          refine lv_iload_n hx hb dX3_kinds_65 rfl (lv_at hl 2 rfl) ?_
          refine xastN hx hb hG hP hD hS 1 rfl (j) (ki j) rfl rfl (by omega) (by decide) dX3_kinds_66 (fun H locs hP hD hS => ?_)
          have hP : va_P D vwCl (wM cI ad fa n fo (updN ki_22 j (ki j)) st we lo ra rch q0 q1 q2 q3 fk fc rd rc rv sh sle sla bg hd tr) H := hP
          have hD : va_D (AW (adM ad)) (wM cI ad fa n fo (updN ki_22 j (ki j)) st we lo ra rch q0 q1 q2 q3 fk fc rd rc rv sh sle sla bg hd tr) := hD
          rw [updN_back hup] at hP hD
          have hP : va_P D vwCl (wM cI ad fa n fo ki st we lo ra rch q0 q1 q2 q3 fk fc rd rc rv sh sle sla bg hd tr) H := hP
          have hD : va_D (AW (adM ad)) (wM cI ad fa n fo ki st we lo ra rch q0 q1 q2 q3 fk fc rd rc rv sh sle sla bg hd tr) := hD
          refine lv_iload_n hx hb dX3_kinds_67 rfl (lv_at hl 1 rfl) ?_
          exact xretM hx hb hr hlk dX3_kinds_68 hS () (by simp [A_kinds, c_5, hclj, c_25]) (fun t ht => by rw [ht]; exact hP)
        ·
          replace c_25 := (not_congr (nI_leI (a := 3) (b := i) (by omega) (by omega))).mp c_25
          refine lv_aload_n hx hb dX3_kinds_28 rfl (lv_at hl 3 rfl) ?_
          refine va_get (D := D) (ci := 3) (v := .ref (ad 1)) (C := RX3) (T := TX3) (N := 23) hx hb yX3 (fun _ h => h) hown hG.1 hP 0 rfl rfl 3 (by decide) f7 (fun _ h => h) rfl dX3_kinds_29 ?_
          refine lv_iload_n hx hb dX3_kinds_32 rfl (lv_at hl 4 rfl) ?_
          refine lv_iload hx hb dX3_kinds_33 (lv_at hl 0 rfl) ?_
          refine xastN hx hb hG hP hD hS 1 rfl (j) (i) rfl rfl (by omega) (by decide) dX3_kinds_35 (fun H locs hP hD hS => ?_)
          have hP : va_P D vwCl (wM cI ad fa n fo (updN ki_22 j i) st we lo ra rch q0 q1 q2 q3 fk fc rd rc rv sh sle sla bg hd tr) H := hP
          have hD : va_D (AW (adM ad)) (wM cI ad fa n fo (updN ki_22 j i) st we lo ra rch q0 q1 q2 q3 fk fc rd rc rv sh sle sla bg hd tr) := hD
          rw [updN_up hup] at hP hD
          have hP : va_P D vwCl (wM cI ad fa n fo (updN ki j i) st we lo ra rch q0 q1 q2 q3 fk fc rd rc rv sh sle sla bg hd tr) H := hP
          have hD : va_D (AW (adM ad)) (wM cI ad fa n fo (updN ki j i) st we lo ra rch q0 q1 q2 q3 fk fc rd rc rv sh sle sla bg hd tr) := hD
          refine lv_iload_n hx hb dX3_kinds_36 rfl (lv_at hl 1 rfl) ?_
          refine lv_aload_n hx hb dX3_kinds_37 rfl (lv_at hl 3 rfl) ?_
          refine xrd (va_runV (As := []) (rest := [.int (nI (setN (fun v => asoB rd rc rv ki we j v (we j)) i))]) hF (c_X3_areSo l D cI cS ad fa n fo (updN ki j i) st we lo ra rch q0 q1 q2 q3 fk fc rd rc rv sh sle sla bg hd tr (by first | assumption | omega) (by exact updN_b hki (by omega)) (by first | assumption | omega) (by first | assumption | omega) (by first | assumption | omega) (by first | assumption | omega)) (cwV 0 hts gX3_kinds_X3_areSo rfl rfl rfl hV_X3_areSo ⟨Nat.le_of_ble_eq_true rfl, Nat.le_of_ble_eq_true rfl⟩) (PR.preV hG hP (ci := 3) rfl rfl) rfl rfl hl.1 rfl (lv_room (Nat.le_of_ble_eq_true rfl)) dX3_kinds_38 ⟨Nat.le_refl _, Nat.le_refl _⟩) ?_
          refine xtop (x' := bI (asoB rd rc rv ki we j i (we j))) (by rw [ar_k]) ?_
          refine lv_if_eq (tgt := 51) hx hb dX3_kinds_41 (by decide) (fun c_41 => ?_) (fun c_41 => ?_)
          ·
            replace c_41 := bI_0.mp c_41
            refine lv_iconst (v := nI 0) hx hb dX3_kinds_51 (by decide) ?_
            refine lv_ior hx hb dX3_kinds_52 ?_
            refine xtop (x' := nI ((setN (fun v => asoB rd rc rv ki we j v (we j)) i) ||| 0)) (nI_or _ _) ?_
            refine lv_istore_n (lv' := [(3, .int (nI ((setN (fun v => asoB rd rc rv ki we j v (we j)) i) ||| 0))), (4, .int (nI i)), (2, .int (nI (ki j))), (0, .ref (ad 0)), (1, .int (nI j))]) hx hb dX3_kinds_53 rfl hl (by decide) rfl (fun ls hl => ?_)
            refine lv_iinc (v := nI (i + 1)) (lv' := [(4, .int (nI (i + 1))), (3, .int (nI ((setN (fun v => asoB rd rc rv ki we j v (we j)) i) ||| 0))), (2, .int (nI (ki j))), (0, .ref (ad 0)), (1, .int (nI j))]) hx hb dX3_kinds_54 hl (k := 1) rfl xinc1 (by decide) rfl (fun ls hl => ?_)
            refine lv_goto (tgt := 22) hx hb dX3_kinds_57 (by decide) ?_
            exact ih (i + 1) (updN ki j i) (nI ((setN (fun v => asoB rd rc rv ki we j v (we j)) i) ||| 0)) (by simp [setN, c_5, hclj, c_25, c_41]) (by omega) (by exact updN_o) (by omega) _ _ hP hD hS ls (lv_sub hl [0, 1, 2, 3, 4] rfl)
          ·
            replace c_41 := bI_n0.mp c_41
            refine lv_iconst (v := nI 1) hx hb dX3_kinds_44 (by decide) ?_
            refine lv_iload hx hb dX3_kinds_45 (lv_at hl 0 rfl) ?_
            refine lv_ishl hx hb dX3_kinds_47 ?_
            refine xtop (x' := nI (2 ^ i)) (by exact shl1 i (by omega)) ?_
            refine lv_goto (tgt := 52) hx hb dX3_kinds_48 (by decide) ?_
            refine lv_ior hx hb dX3_kinds_52 ?_
            refine xtop (x' := nI ((setN (fun v => asoB rd rc rv ki we j v (we j)) i) ||| (2 ^ i))) (nI_or _ _) ?_
            refine lv_istore_n (lv' := [(3, .int (nI ((setN (fun v => asoB rd rc rv ki we j v (we j)) i) ||| (2 ^ i)))), (4, .int (nI i)), (2, .int (nI (ki j))), (0, .ref (ad 0)), (1, .int (nI j))]) hx hb dX3_kinds_53 rfl hl (by decide) rfl (fun ls hl => ?_)
            refine lv_iinc (v := nI (i + 1)) (lv' := [(4, .int (nI (i + 1))), (3, .int (nI ((setN (fun v => asoB rd rc rv ki we j v (we j)) i) ||| (2 ^ i)))), (2, .int (nI (ki j))), (0, .ref (ad 0)), (1, .int (nI j))]) hx hb dX3_kinds_54 hl (k := 1) rfl xinc1 (by decide) rfl (fun ls hl => ?_)
            refine lv_goto (tgt := 22) hx hb dX3_kinds_57 (by decide) ?_
            exact ih (i + 1) (updN ki j i) (nI ((setN (fun v => asoB rd rc rv ki we j v (we j)) i) ||| (2 ^ i))) (by simp [setN, c_5, hclj, c_25, c_41]) (by omega) (by exact updN_o) (by omega) _ _ hP hD hS ls (lv_sub hl [0, 1, 2, 3, 4] rfl)
    exact K22 _ 0 ki (nI 0) (by first | rfl | omega | (exact fun _ _ => rfl)) (by first | rfl | omega | (exact fun _ _ => rfl)) (by first | rfl | omega | (exact fun _ _ => rfl)) (Nat.lt_succ_self _) _ _ hP hD hS ls (lv_sub hl [0, 1, 2, 3, 4] rfl)
  ·
    replace c_5 := bI_n0.mp c_5
    replace c_5 := (by simpa using c_5 : (hasB n k) = false)
    refine lv_iconst (v := (-1)) hx hb dX3_kinds_8 (by decide) ?_
    exact xretM hx hb hr hlk dX3_kinds_9 hS () (by simp [A_kinds, c_5]) (fun t ht => by rw [ht]; exact hP)

set_option maxHeartbeats 4000000 in
set_option maxRecDepth 100000 in
theorem c_X3_wonBy (l : Launch) (D : va_G) (cI cS : ClassId) (ad : Nat → Nat) (fa : Nat) (n : Nat) (fo : Nat) (ki : Nat → Nat) (st : Nat → Nat) (we : Nat → Nat) (lo : Nat → Nat) (ra : Nat) (rch : Nat) (q0 : Nat → Int32) (q1 : Nat → Int32) (q2 : Nat → Int32) (q3 : Nat → Int32) (fk : Nat) (fc : Nat → Nat) (rd : Nat) (rc : Nat → Nat) (rv : Nat → Nat) (sh : Nat → Bool) (sle : Nat → Nat) (sla : Nat → Nat) (bg : Nat → Int32) (hd : Nat → Int32) (tr : Int32) (c1 : Nat) (hn : n ≤ 8) (hfo : fo < 256) (hki : ∀ j, ki j ≤ 2) (hwe : ∀ j, we j ≤ 9) (hst : ∀ j, st j ≤ 3) (hlo : ∀ j, lo j ≤ 3) (hn0 : 0 < n) (hc1 : c1 < 256) : Met l yX3_wonBy wsX3_wonBy ({ frames := 3, cells := 0, slots := 0, locals := 65 }) (PR D cI cS [.ref (ad 0), .int (nI c1)] (wM cI ad fa n fo ki st we lo ra rch q0 q1 q2 q3 fk fc rd rc rv sh sle sla bg hd tr)) (vp_Si (fun r => r = nI (winM n fo ki st we lo c1))) 0 0 (fun _ => False) := by
  refine startR (by decide) rfl (Nat.le_of_ble_eq_true rfl) ?_
  intro p e s m below meth c hx hb hr hts hown hlk hml hG hP ls hl
  have hl : lv_has ls 6 [(0, .ref (ad 0)), (1, .int (nI c1))] := hl
  have f65 := hts (.fieldLink RX3 65 "ChairBallotModel" "chairs" "I") (by decide +kernel)
  have yX3 : ∀ w ∈ u_ws RX3 TX3 23, w.before _ s = true := fun w h => hts w ((by decide +kernel : ∀ w ∈ wsX30, w ∈ wsX3_wonBy) w h)
  have hF : CallFix p m c cX3_wonBy 6 s _ wsX3_wonBy RX3 := ⟨hx, hb, hml, hown, hts⟩
  refine lv_iconst (v := nI 0) hx hb dX3_wonBy_0 (by decide) ?_
  refine lv_istore_n (lv' := [(2, .int (nI 0)), (0, .ref (ad 0)), (1, .int (nI c1))]) hx hb dX3_wonBy_1 rfl hl (by decide) rfl (fun ls hl => ?_)
  refine lv_iconst (v := nI 0) hx hb dX3_wonBy_2 (by decide) ?_
  refine lv_istore_n (lv' := [(3, .int (nI 0)), (2, .int (nI 0)), (0, .ref (ad 0)), (1, .int (nI c1))]) hx hb dX3_wonBy_3 rfl hl (by decide) rfl (fun ls hl => ?_)
  refine lv_iconst (v := nI 0) hx hb dX3_wonBy_4 (by decide) ?_
  refine lv_istore (lv' := [(4, .int (nI 0)), (3, .int (nI 0)), (2, .int (nI 0)), (0, .ref (ad 0)), (1, .int (nI c1))]) hx hb dX3_wonBy_5 hl (by decide) rfl (fun ls hl => ?_)
  have K7 : ∀ (fuel : Nat) (i : Nat) (x3 : Int32) (x2 : Int32), x3 = zI (wmS n (fun j => c1.testBit j) (tiN n fo ki st we lo) i).2 → x2 = nI ((wmS n (fun j => c1.testBit j) (tiN n fo ki st we lo) i).1) → (i ≤ n) → (n - i) < fuel → ∀ ls : Array Slot, lv_has ls 6 [(4, .int (nI i)), (3, .int x3), (2, .int x2), (0, .ref (ad 0)), (1, .int (nI c1))] → W p l e ({ frames := 3, cells := 0, slots := 0, locals := 65 }) s m (([.ref (ad 0), .int (nI c1)] : List Value).toArray) below meth c s.heap [] 0 0 (MQ below (vp_Si (fun r => r = nI (winM n fo ki st we lo c1))) (([.ref (ad 0), .int (nI c1)] : List Value).toArray) s 0 0 (fun _ => False)) (F0 m 7 ls []) := by
    intro fuel
    induction fuel with
    | zero => intro i x3 x2 e_x3 e_x2 hi hmu; exact absurd hmu (Nat.not_lt_zero _)
    | succ fuel ih =>
      intro i x3 x2 e_x3 e_x2 hi hmu ls hl
      subst e_x3
      subst e_x2
      obtain ⟨hb1, hb2, hb3⟩ := wmS_b (n := n) (b := fun j => c1.testBit j) (t := tiN n fo ki st we lo) (fun j => tiN_b hwe j) i
      have hs2 := sdN_le n fo st lo i
      have ht9 := tiN_b (n := n) (fo := fo) (ki := ki) (st := st) (lo := lo) hwe i
      have hz := zI_toInt (z := (wmS n (fun j => c1.testBit j) (tiN n fo ki st we lo) i).2 + tiN n fo ki st we lo i) (by omega) (by omega)
      refine lv_iload hx hb dX3_wonBy_7 (lv_at hl 0 rfl) ?_
      refine lv_aload_n hx hb dX3_wonBy_9 rfl (lv_at hl 3 rfl) ?_
      refine va_get (D := D) (ci := 3) (v := .int (nI n)) (C := RX3) (T := TX3) (N := 23) hx hb yX3 (fun _ h => h) hown hG.1 hP 0 rfl rfl 1 (by decide) f65 (fun _ h => h) rfl dX3_wonBy_10 ?_
      refine lv_icmp_ge (tgt := 101) hx hb dX3_wonBy_13 (by decide) (fun c_13 => ?_) (fun c_13 => ?_)
      ·
        replace c_13 := (nI_leI (a := n) (b := i) (by omega) (by omega)).mp c_13
        have hin : n = i := by omega
        subst hin
        refine lv_iload_n hx hb dX3_wonBy_101 rfl (lv_at hl 2 rfl) ?_
        exact xretR hx hb hr hlk dX3_wonBy_102 (by exact congrArg nI (wm_win hn0))
      ·
        replace c_13 := (not_congr (nI_leI (a := n) (b := i) (by omega) (by omega))).mp c_13
        refine lv_aload_n hx hb dX3_wonBy_16 rfl (lv_at hl 3 rfl) ?_
        refine lv_iload hx hb dX3_wonBy_17 (lv_at hl 0 rfl) ?_
        refine xrd (va_runV (As := [.int (nI i)]) (rest := []) hF (c_X3_countsAs l D cI cS ad fa n fo ki st we lo ra rch q0 q1 q2 q3 fk fc rd rc rv sh sle sla bg hd tr i (by first | assumption | omega) (by first | assumption | omega) (by first | assumption | omega) (by first | assumption | omega) (by first | assumption | omega)) (cwV 1 hts gX3_wonBy_X3_countsAs rfl rfl rfl hV_X3_countsAs ⟨Nat.le_of_ble_eq_true rfl, Nat.le_of_ble_eq_true rfl⟩) (PR.preV hG hP (ci := 3) rfl rfl) rfl rfl hl.1 rfl (lv_room (Nat.le_of_ble_eq_true rfl)) dX3_wonBy_19 ⟨Nat.le_refl _, Nat.le_refl _⟩) ?_
        refine lv_istore (lv' := [(5, .int (nI (sdN n fo st lo i))), (4, .int (nI i)), (3, .int (zI (wmS n (fun j => c1.testBit j) (tiN n fo ki st we lo) i).2)), (2, .int (nI ((wmS n (fun j => c1.testBit j) (tiN n fo ki st we lo) i).1))), (0, .ref (ad 0)), (1, .int (nI c1))]) hx hb dX3_wonBy_22 hl (by decide) rfl (fun ls hl => ?_)
        refine lv_iload_n hx hb dX3_wonBy_24 rfl (lv_at hl 2 rfl) ?_
        refine lv_iload hx hb dX3_wonBy_25 (lv_at hl 0 rfl) ?_
        refine lv_iconst (v := nI 1) hx hb dX3_wonBy_27 (by decide) ?_
        refine lv_icmp_ne (tgt := 40) hx hb dX3_wonBy_28 (by decide) (fun c_28 => ?_) (fun c_28 => ?_)
        ·
          replace c_28 := (not_congr (nI_eq (a := sdN n fo st lo i) (b := 1) (by omega) (by omega))).mp c_28
          refine lv_iload hx hb dX3_wonBy_40 (lv_at hl 0 rfl) ?_
          refine lv_iconst (v := nI 2) hx hb dX3_wonBy_42 (by decide) ?_
          refine lv_icmp_ne (tgt := 56) hx hb dX3_wonBy_43 (by decide) (fun c_43 => ?_) (fun c_43 => ?_)
          ·
            replace c_43 := (not_congr (nI_eq (a := sdN n fo st lo i) (b := 2) (by omega) (by omega))).mp c_43
            refine lv_iconst (v := nI 0) hx hb dX3_wonBy_56 (by decide) ?_
            refine lv_iadd hx hb dX3_wonBy_57 ?_
            refine xtop (x' := zI ((wmS n (fun j => c1.testBit j) (tiN n fo ki st we lo) i).2 + tiN n fo ki st we lo i)) (by first | exact tm_1 c_28 | exact tm_2 c_28 c_43 | exact tm_3 c_28 c_43) ?_
            refine lv_istore_n (lv' := [(3, .int (zI ((wmS n (fun j => c1.testBit j) (tiN n fo ki st we lo) i).2 + tiN n fo ki st we lo i))), (5, .int (nI (sdN n fo st lo i))), (4, .int (nI i)), (2, .int (nI ((wmS n (fun j => c1.testBit j) (tiN n fo ki st we lo) i).1))), (0, .ref (ad 0)), (1, .int (nI c1))]) hx hb dX3_wonBy_58 rfl hl (by decide) rfl (fun ls hl => ?_)
            refine lv_iload hx hb dX3_wonBy_59 (lv_at hl 2 rfl) ?_
            refine lv_aload_n hx hb dX3_wonBy_61 rfl (lv_at hl 4 rfl) ?_
            refine va_get (D := D) (ci := 3) (v := .int (nI n)) (C := RX3) (T := TX3) (N := 23) hx hb yX3 (fun _ h => h) hown hG.1 hP 0 rfl rfl 1 (by decide) f65 (fun _ h => h) rfl dX3_wonBy_62 ?_
            refine lv_iconst (v := nI 1) hx hb dX3_wonBy_65 (by decide) ?_
            refine xsubN (x := n) (y := 1) hx hb (by omega) dX3_wonBy_66 ?_
            refine lv_icmp_eq (tgt := 81) hx hb dX3_wonBy_67 (by decide) (fun c_67 => ?_) (fun c_67 => ?_)
            ·
              replace c_67 := (nI_eq (a := i) (b := n - 1) (by omega) (by omega)).mp c_67
              refine lv_iload_n hx hb dX3_wonBy_81 rfl (lv_at hl 3 rfl) ?_
              refine lv_iload_n hx hb dX3_wonBy_82 rfl (lv_at hl 0 rfl) ?_
              refine lv_if_le (tgt := 90) hx hb dX3_wonBy_83 (by decide) (fun c_83 => ?_) (fun c_83 => ?_)
              ·
                replace c_83 : (zI ((wmS n (fun j => c1.testBit j) (tiN n fo ki st we lo) i).2 + tiN n fo ki st we lo i)).toInt ≤ 0 := (i32_lec (b := 0) (by omega)).mp c_83
                refine lv_iconst (v := nI 0) hx hb dX3_wonBy_90 (by decide) ?_
                refine xaddN hx hb dX3_wonBy_91 ?_
                refine lv_istore_n (lv' := [(2, .int (nI ((wmS n (fun j => c1.testBit j) (tiN n fo ki st we lo) i).1 + 0))), (3, .int (zI ((wmS n (fun j => c1.testBit j) (tiN n fo ki st we lo) i).2 + tiN n fo ki st we lo i))), (5, .int (nI (sdN n fo st lo i))), (4, .int (nI i)), (0, .ref (ad 0)), (1, .int (nI c1))]) hx hb dX3_wonBy_92 rfl hl (by decide) rfl (fun ls hl => ?_)
                refine lv_iconst (v := nI 0) hx hb dX3_wonBy_93 (by decide) ?_
                refine lv_istore_n (lv' := [(3, .int (nI 0)), (2, .int (nI ((wmS n (fun j => c1.testBit j) (tiN n fo ki st we lo) i).1 + 0))), (5, .int (nI (sdN n fo st lo i))), (4, .int (nI i)), (0, .ref (ad 0)), (1, .int (nI c1))]) hx hb dX3_wonBy_94 rfl hl (by decide) rfl (fun ls hl => ?_)
                refine lv_iinc (v := nI (i + 1)) (lv' := [(4, .int (nI (i + 1))), (3, .int (nI 0)), (2, .int (nI ((wmS n (fun j => c1.testBit j) (tiN n fo ki st we lo) i).1 + 0))), (5, .int (nI (sdN n fo st lo i))), (0, .ref (ad 0)), (1, .int (nI c1))]) hx hb dX3_wonBy_95 hl (k := 3) rfl xinc1 (by decide) rfl (fun ls hl => ?_)
                refine lv_goto (tgt := 7) hx hb dX3_wonBy_98 (by decide) ?_
                exact ih (i + 1) (nI 0) (nI ((wmS n (fun j => c1.testBit j) (tiN n fo ki st we lo) i).1 + 0)) (by rw [wm_y (by rw [decide_eq_true (show i + 1 = n by omega)]; rfl)]; try rfl) (by rw [wm_y (by rw [decide_eq_true (show i + 1 = n by omega)]; rfl), if_neg (show ¬ 0 < (wmS n (fun j => c1.testBit j) (tiN n fo ki st we lo) i).2 + tiN n fo ki st we lo i by omega)]; try rfl) (by omega) (by omega) ls (lv_sub hl [0, 1, 2, 4, 5] rfl)
              ·
                replace c_83 : ¬ (zI ((wmS n (fun j => c1.testBit j) (tiN n fo ki st we lo) i).2 + tiN n fo ki st we lo i)).toInt ≤ 0 := (not_congr (i32_lec (b := 0) (by omega))).mp c_83
                refine lv_iconst (v := nI 1) hx hb dX3_wonBy_86 (by decide) ?_
                refine lv_goto (tgt := 91) hx hb dX3_wonBy_87 (by decide) ?_
                refine xaddN hx hb dX3_wonBy_91 ?_
                refine lv_istore_n (lv' := [(2, .int (nI ((wmS n (fun j => c1.testBit j) (tiN n fo ki st we lo) i).1 + 1))), (3, .int (zI ((wmS n (fun j => c1.testBit j) (tiN n fo ki st we lo) i).2 + tiN n fo ki st we lo i))), (5, .int (nI (sdN n fo st lo i))), (4, .int (nI i)), (0, .ref (ad 0)), (1, .int (nI c1))]) hx hb dX3_wonBy_92 rfl hl (by decide) rfl (fun ls hl => ?_)
                refine lv_iconst (v := nI 0) hx hb dX3_wonBy_93 (by decide) ?_
                refine lv_istore_n (lv' := [(3, .int (nI 0)), (2, .int (nI ((wmS n (fun j => c1.testBit j) (tiN n fo ki st we lo) i).1 + 1))), (5, .int (nI (sdN n fo st lo i))), (4, .int (nI i)), (0, .ref (ad 0)), (1, .int (nI c1))]) hx hb dX3_wonBy_94 rfl hl (by decide) rfl (fun ls hl => ?_)
                refine lv_iinc (v := nI (i + 1)) (lv' := [(4, .int (nI (i + 1))), (3, .int (nI 0)), (2, .int (nI ((wmS n (fun j => c1.testBit j) (tiN n fo ki st we lo) i).1 + 1))), (5, .int (nI (sdN n fo st lo i))), (0, .ref (ad 0)), (1, .int (nI c1))]) hx hb dX3_wonBy_95 hl (k := 3) rfl xinc1 (by decide) rfl (fun ls hl => ?_)
                refine lv_goto (tgt := 7) hx hb dX3_wonBy_98 (by decide) ?_
                exact ih (i + 1) (nI 0) (nI ((wmS n (fun j => c1.testBit j) (tiN n fo ki st we lo) i).1 + 1)) (by rw [wm_y (by rw [decide_eq_true (show i + 1 = n by omega)]; rfl)]; try rfl) (by rw [wm_y (by rw [decide_eq_true (show i + 1 = n by omega)]; rfl), if_pos (show 0 < (wmS n (fun j => c1.testBit j) (tiN n fo ki st we lo) i).2 + tiN n fo ki st we lo i by omega)]; try rfl) (by omega) (by omega) ls (lv_sub hl [0, 1, 2, 4, 5] rfl)
            ·
              replace c_67 := (not_congr (nI_eq (a := i) (b := n - 1) (by omega) (by omega))).mp c_67
              refine lv_iload_n hx hb dX3_wonBy_70 rfl (lv_at hl 5 rfl) ?_
              refine lv_iload hx hb dX3_wonBy_71 (lv_at hl 2 rfl) ?_
              refine lv_iconst (v := nI 1) hx hb dX3_wonBy_73 (by decide) ?_
              refine xaddN hx hb dX3_wonBy_74 ?_
              refine xrd (va_runS (As := [.int (nI c1), .int (nI (i + 1))]) (rest := []) hF (c_X3_isIn l D cI cS c1 (i + 1) (by first | assumption | omega) (by first | assumption | omega)) (va_cwS 2 hts gX3_wonBy_X3_isIn rfl rfl rfl hD_X3_isIn ⟨Nat.le_of_ble_eq_true rfl, Nat.le_of_ble_eq_true rfl⟩) (PR.pre hG (hP.sub (ws' := []) [] rfl)) rfl rfl hl.1 rfl (lv_room (Nat.le_of_ble_eq_true rfl)) dX3_wonBy_75 ⟨Nat.le_refl _, Nat.le_refl _⟩) ?_
              refine lv_if_eq (tgt := 95) hx hb dX3_wonBy_78 (by decide) (fun c_78 => ?_) (fun c_78 => ?_)
              ·
                replace c_78 := bI_0.mp c_78
                refine lv_iinc (v := nI (i + 1)) (lv' := [(4, .int (nI (i + 1))), (3, .int (zI ((wmS n (fun j => c1.testBit j) (tiN n fo ki st we lo) i).2 + tiN n fo ki st we lo i))), (5, .int (nI (sdN n fo st lo i))), (2, .int (nI ((wmS n (fun j => c1.testBit j) (tiN n fo ki st we lo) i).1))), (0, .ref (ad 0)), (1, .int (nI c1))]) hx hb dX3_wonBy_95 hl (k := 2) rfl xinc1 (by decide) rfl (fun ls hl => ?_)
                refine lv_goto (tgt := 7) hx hb dX3_wonBy_98 (by decide) ?_
                exact ih (i + 1) (zI ((wmS n (fun j => c1.testBit j) (tiN n fo ki st we lo) i).2 + tiN n fo ki st we lo i)) (nI ((wmS n (fun j => c1.testBit j) (tiN n fo ki st we lo) i).1)) (by rw [wm_n (by rw [decide_eq_false (show ¬ i + 1 = n by omega)]; simp [c_78])]; try rfl) (by rw [wm_n (by rw [decide_eq_false (show ¬ i + 1 = n by omega)]; simp [c_78])]; try rfl) (by omega) (by omega) ls (lv_sub hl [0, 1, 3, 4, 5] rfl)
              ·
                replace c_78 := bI_n0.mp c_78
                refine lv_iload_n hx hb dX3_wonBy_81 rfl (lv_at hl 3 rfl) ?_
                refine lv_iload_n hx hb dX3_wonBy_82 rfl (lv_at hl 0 rfl) ?_
                refine lv_if_le (tgt := 90) hx hb dX3_wonBy_83 (by decide) (fun c_83 => ?_) (fun c_83 => ?_)
                ·
                  replace c_83 : (zI ((wmS n (fun j => c1.testBit j) (tiN n fo ki st we lo) i).2 + tiN n fo ki st we lo i)).toInt ≤ 0 := (i32_lec (b := 0) (by omega)).mp c_83
                  refine lv_iconst (v := nI 0) hx hb dX3_wonBy_90 (by decide) ?_
                  refine xaddN hx hb dX3_wonBy_91 ?_
                  refine lv_istore_n (lv' := [(2, .int (nI ((wmS n (fun j => c1.testBit j) (tiN n fo ki st we lo) i).1 + 0))), (3, .int (zI ((wmS n (fun j => c1.testBit j) (tiN n fo ki st we lo) i).2 + tiN n fo ki st we lo i))), (5, .int (nI (sdN n fo st lo i))), (4, .int (nI i)), (0, .ref (ad 0)), (1, .int (nI c1))]) hx hb dX3_wonBy_92 rfl hl (by decide) rfl (fun ls hl => ?_)
                  refine lv_iconst (v := nI 0) hx hb dX3_wonBy_93 (by decide) ?_
                  refine lv_istore_n (lv' := [(3, .int (nI 0)), (2, .int (nI ((wmS n (fun j => c1.testBit j) (tiN n fo ki st we lo) i).1 + 0))), (5, .int (nI (sdN n fo st lo i))), (4, .int (nI i)), (0, .ref (ad 0)), (1, .int (nI c1))]) hx hb dX3_wonBy_94 rfl hl (by decide) rfl (fun ls hl => ?_)
                  refine lv_iinc (v := nI (i + 1)) (lv' := [(4, .int (nI (i + 1))), (3, .int (nI 0)), (2, .int (nI ((wmS n (fun j => c1.testBit j) (tiN n fo ki st we lo) i).1 + 0))), (5, .int (nI (sdN n fo st lo i))), (0, .ref (ad 0)), (1, .int (nI c1))]) hx hb dX3_wonBy_95 hl (k := 3) rfl xinc1 (by decide) rfl (fun ls hl => ?_)
                  refine lv_goto (tgt := 7) hx hb dX3_wonBy_98 (by decide) ?_
                  exact ih (i + 1) (nI 0) (nI ((wmS n (fun j => c1.testBit j) (tiN n fo ki st we lo) i).1 + 0)) (by rw [wm_y (by simp [c_78])]; try rfl) (by rw [wm_y (by simp [c_78]), if_neg (show ¬ 0 < (wmS n (fun j => c1.testBit j) (tiN n fo ki st we lo) i).2 + tiN n fo ki st we lo i by omega)]; try rfl) (by omega) (by omega) ls (lv_sub hl [0, 1, 2, 4, 5] rfl)
                ·
                  replace c_83 : ¬ (zI ((wmS n (fun j => c1.testBit j) (tiN n fo ki st we lo) i).2 + tiN n fo ki st we lo i)).toInt ≤ 0 := (not_congr (i32_lec (b := 0) (by omega))).mp c_83
                  refine lv_iconst (v := nI 1) hx hb dX3_wonBy_86 (by decide) ?_
                  refine lv_goto (tgt := 91) hx hb dX3_wonBy_87 (by decide) ?_
                  refine xaddN hx hb dX3_wonBy_91 ?_
                  refine lv_istore_n (lv' := [(2, .int (nI ((wmS n (fun j => c1.testBit j) (tiN n fo ki st we lo) i).1 + 1))), (3, .int (zI ((wmS n (fun j => c1.testBit j) (tiN n fo ki st we lo) i).2 + tiN n fo ki st we lo i))), (5, .int (nI (sdN n fo st lo i))), (4, .int (nI i)), (0, .ref (ad 0)), (1, .int (nI c1))]) hx hb dX3_wonBy_92 rfl hl (by decide) rfl (fun ls hl => ?_)
                  refine lv_iconst (v := nI 0) hx hb dX3_wonBy_93 (by decide) ?_
                  refine lv_istore_n (lv' := [(3, .int (nI 0)), (2, .int (nI ((wmS n (fun j => c1.testBit j) (tiN n fo ki st we lo) i).1 + 1))), (5, .int (nI (sdN n fo st lo i))), (4, .int (nI i)), (0, .ref (ad 0)), (1, .int (nI c1))]) hx hb dX3_wonBy_94 rfl hl (by decide) rfl (fun ls hl => ?_)
                  refine lv_iinc (v := nI (i + 1)) (lv' := [(4, .int (nI (i + 1))), (3, .int (nI 0)), (2, .int (nI ((wmS n (fun j => c1.testBit j) (tiN n fo ki st we lo) i).1 + 1))), (5, .int (nI (sdN n fo st lo i))), (0, .ref (ad 0)), (1, .int (nI c1))]) hx hb dX3_wonBy_95 hl (k := 3) rfl xinc1 (by decide) rfl (fun ls hl => ?_)
                  refine lv_goto (tgt := 7) hx hb dX3_wonBy_98 (by decide) ?_
                  exact ih (i + 1) (nI 0) (nI ((wmS n (fun j => c1.testBit j) (tiN n fo ki st we lo) i).1 + 1)) (by rw [wm_y (by simp [c_78])]; try rfl) (by rw [wm_y (by simp [c_78]), if_pos (show 0 < (wmS n (fun j => c1.testBit j) (tiN n fo ki st we lo) i).2 + tiN n fo ki st we lo i by omega)]; try rfl) (by omega) (by omega) ls (lv_sub hl [0, 1, 2, 4, 5] rfl)
          ·
            replace c_43 := (nI_eq (a := sdN n fo st lo i) (b := 2) (by omega) (by omega)).mp c_43
            refine lv_aload_n hx hb dX3_wonBy_46 rfl (lv_at hl 4 rfl) ?_
            refine lv_iload hx hb dX3_wonBy_47 (lv_at hl 1 rfl) ?_
            refine xrd (va_runV (As := [.int (nI i)]) (rest := [.int (zI (wmS n (fun j => c1.testBit j) (tiN n fo ki st we lo) i).2)]) hF (c_X3_votesOf l D cI cS ad fa n fo ki st we lo ra rch q0 q1 q2 q3 fk fc rd rc rv sh sle sla bg hd tr i (by first | assumption | omega) (by first | assumption | omega) (by first | assumption | omega) (by first | assumption | omega) (by first | assumption | omega)) (cwV 1 hts gX3_wonBy_X3_votesOf rfl rfl rfl hV_X3_votesOf ⟨Nat.le_of_ble_eq_true rfl, Nat.le_of_ble_eq_true rfl⟩) (PR.preV hG hP (ci := 3) rfl rfl) rfl rfl hl.1 rfl (lv_room (Nat.le_of_ble_eq_true rfl)) dX3_wonBy_49 ⟨Nat.le_refl _, Nat.le_refl _⟩) ?_
            refine lv_ineg hx hb dX3_wonBy_52 ?_
            refine lv_goto (tgt := 57) hx hb dX3_wonBy_53 (by decide) ?_
            refine lv_iadd hx hb dX3_wonBy_57 ?_
            refine xtop (x' := zI ((wmS n (fun j => c1.testBit j) (tiN n fo ki st we lo) i).2 + tiN n fo ki st we lo i)) (by first | exact tm_1 c_28 | exact tm_2 c_28 c_43 | exact tm_3 c_28 c_43) ?_
            refine lv_istore_n (lv' := [(3, .int (zI ((wmS n (fun j => c1.testBit j) (tiN n fo ki st we lo) i).2 + tiN n fo ki st we lo i))), (5, .int (nI (sdN n fo st lo i))), (4, .int (nI i)), (2, .int (nI ((wmS n (fun j => c1.testBit j) (tiN n fo ki st we lo) i).1))), (0, .ref (ad 0)), (1, .int (nI c1))]) hx hb dX3_wonBy_58 rfl hl (by decide) rfl (fun ls hl => ?_)
            refine lv_iload hx hb dX3_wonBy_59 (lv_at hl 2 rfl) ?_
            refine lv_aload_n hx hb dX3_wonBy_61 rfl (lv_at hl 4 rfl) ?_
            refine va_get (D := D) (ci := 3) (v := .int (nI n)) (C := RX3) (T := TX3) (N := 23) hx hb yX3 (fun _ h => h) hown hG.1 hP 0 rfl rfl 1 (by decide) f65 (fun _ h => h) rfl dX3_wonBy_62 ?_
            refine lv_iconst (v := nI 1) hx hb dX3_wonBy_65 (by decide) ?_
            refine xsubN (x := n) (y := 1) hx hb (by omega) dX3_wonBy_66 ?_
            refine lv_icmp_eq (tgt := 81) hx hb dX3_wonBy_67 (by decide) (fun c_67 => ?_) (fun c_67 => ?_)
            ·
              replace c_67 := (nI_eq (a := i) (b := n - 1) (by omega) (by omega)).mp c_67
              refine lv_iload_n hx hb dX3_wonBy_81 rfl (lv_at hl 3 rfl) ?_
              refine lv_iload_n hx hb dX3_wonBy_82 rfl (lv_at hl 0 rfl) ?_
              refine lv_if_le (tgt := 90) hx hb dX3_wonBy_83 (by decide) (fun c_83 => ?_) (fun c_83 => ?_)
              ·
                replace c_83 : (zI ((wmS n (fun j => c1.testBit j) (tiN n fo ki st we lo) i).2 + tiN n fo ki st we lo i)).toInt ≤ 0 := (i32_lec (b := 0) (by omega)).mp c_83
                refine lv_iconst (v := nI 0) hx hb dX3_wonBy_90 (by decide) ?_
                refine xaddN hx hb dX3_wonBy_91 ?_
                refine lv_istore_n (lv' := [(2, .int (nI ((wmS n (fun j => c1.testBit j) (tiN n fo ki st we lo) i).1 + 0))), (3, .int (zI ((wmS n (fun j => c1.testBit j) (tiN n fo ki st we lo) i).2 + tiN n fo ki st we lo i))), (5, .int (nI (sdN n fo st lo i))), (4, .int (nI i)), (0, .ref (ad 0)), (1, .int (nI c1))]) hx hb dX3_wonBy_92 rfl hl (by decide) rfl (fun ls hl => ?_)
                refine lv_iconst (v := nI 0) hx hb dX3_wonBy_93 (by decide) ?_
                refine lv_istore_n (lv' := [(3, .int (nI 0)), (2, .int (nI ((wmS n (fun j => c1.testBit j) (tiN n fo ki st we lo) i).1 + 0))), (5, .int (nI (sdN n fo st lo i))), (4, .int (nI i)), (0, .ref (ad 0)), (1, .int (nI c1))]) hx hb dX3_wonBy_94 rfl hl (by decide) rfl (fun ls hl => ?_)
                refine lv_iinc (v := nI (i + 1)) (lv' := [(4, .int (nI (i + 1))), (3, .int (nI 0)), (2, .int (nI ((wmS n (fun j => c1.testBit j) (tiN n fo ki st we lo) i).1 + 0))), (5, .int (nI (sdN n fo st lo i))), (0, .ref (ad 0)), (1, .int (nI c1))]) hx hb dX3_wonBy_95 hl (k := 3) rfl xinc1 (by decide) rfl (fun ls hl => ?_)
                refine lv_goto (tgt := 7) hx hb dX3_wonBy_98 (by decide) ?_
                exact ih (i + 1) (nI 0) (nI ((wmS n (fun j => c1.testBit j) (tiN n fo ki st we lo) i).1 + 0)) (by rw [wm_y (by rw [decide_eq_true (show i + 1 = n by omega)]; rfl)]; try rfl) (by rw [wm_y (by rw [decide_eq_true (show i + 1 = n by omega)]; rfl), if_neg (show ¬ 0 < (wmS n (fun j => c1.testBit j) (tiN n fo ki st we lo) i).2 + tiN n fo ki st we lo i by omega)]; try rfl) (by omega) (by omega) ls (lv_sub hl [0, 1, 2, 4, 5] rfl)
              ·
                replace c_83 : ¬ (zI ((wmS n (fun j => c1.testBit j) (tiN n fo ki st we lo) i).2 + tiN n fo ki st we lo i)).toInt ≤ 0 := (not_congr (i32_lec (b := 0) (by omega))).mp c_83
                refine lv_iconst (v := nI 1) hx hb dX3_wonBy_86 (by decide) ?_
                refine lv_goto (tgt := 91) hx hb dX3_wonBy_87 (by decide) ?_
                refine xaddN hx hb dX3_wonBy_91 ?_
                refine lv_istore_n (lv' := [(2, .int (nI ((wmS n (fun j => c1.testBit j) (tiN n fo ki st we lo) i).1 + 1))), (3, .int (zI ((wmS n (fun j => c1.testBit j) (tiN n fo ki st we lo) i).2 + tiN n fo ki st we lo i))), (5, .int (nI (sdN n fo st lo i))), (4, .int (nI i)), (0, .ref (ad 0)), (1, .int (nI c1))]) hx hb dX3_wonBy_92 rfl hl (by decide) rfl (fun ls hl => ?_)
                refine lv_iconst (v := nI 0) hx hb dX3_wonBy_93 (by decide) ?_
                refine lv_istore_n (lv' := [(3, .int (nI 0)), (2, .int (nI ((wmS n (fun j => c1.testBit j) (tiN n fo ki st we lo) i).1 + 1))), (5, .int (nI (sdN n fo st lo i))), (4, .int (nI i)), (0, .ref (ad 0)), (1, .int (nI c1))]) hx hb dX3_wonBy_94 rfl hl (by decide) rfl (fun ls hl => ?_)
                refine lv_iinc (v := nI (i + 1)) (lv' := [(4, .int (nI (i + 1))), (3, .int (nI 0)), (2, .int (nI ((wmS n (fun j => c1.testBit j) (tiN n fo ki st we lo) i).1 + 1))), (5, .int (nI (sdN n fo st lo i))), (0, .ref (ad 0)), (1, .int (nI c1))]) hx hb dX3_wonBy_95 hl (k := 3) rfl xinc1 (by decide) rfl (fun ls hl => ?_)
                refine lv_goto (tgt := 7) hx hb dX3_wonBy_98 (by decide) ?_
                exact ih (i + 1) (nI 0) (nI ((wmS n (fun j => c1.testBit j) (tiN n fo ki st we lo) i).1 + 1)) (by rw [wm_y (by rw [decide_eq_true (show i + 1 = n by omega)]; rfl)]; try rfl) (by rw [wm_y (by rw [decide_eq_true (show i + 1 = n by omega)]; rfl), if_pos (show 0 < (wmS n (fun j => c1.testBit j) (tiN n fo ki st we lo) i).2 + tiN n fo ki st we lo i by omega)]; try rfl) (by omega) (by omega) ls (lv_sub hl [0, 1, 2, 4, 5] rfl)
            ·
              replace c_67 := (not_congr (nI_eq (a := i) (b := n - 1) (by omega) (by omega))).mp c_67
              refine lv_iload_n hx hb dX3_wonBy_70 rfl (lv_at hl 5 rfl) ?_
              refine lv_iload hx hb dX3_wonBy_71 (lv_at hl 2 rfl) ?_
              refine lv_iconst (v := nI 1) hx hb dX3_wonBy_73 (by decide) ?_
              refine xaddN hx hb dX3_wonBy_74 ?_
              refine xrd (va_runS (As := [.int (nI c1), .int (nI (i + 1))]) (rest := []) hF (c_X3_isIn l D cI cS c1 (i + 1) (by first | assumption | omega) (by first | assumption | omega)) (va_cwS 2 hts gX3_wonBy_X3_isIn rfl rfl rfl hD_X3_isIn ⟨Nat.le_of_ble_eq_true rfl, Nat.le_of_ble_eq_true rfl⟩) (PR.pre hG (hP.sub (ws' := []) [] rfl)) rfl rfl hl.1 rfl (lv_room (Nat.le_of_ble_eq_true rfl)) dX3_wonBy_75 ⟨Nat.le_refl _, Nat.le_refl _⟩) ?_
              refine lv_if_eq (tgt := 95) hx hb dX3_wonBy_78 (by decide) (fun c_78 => ?_) (fun c_78 => ?_)
              ·
                replace c_78 := bI_0.mp c_78
                refine lv_iinc (v := nI (i + 1)) (lv' := [(4, .int (nI (i + 1))), (3, .int (zI ((wmS n (fun j => c1.testBit j) (tiN n fo ki st we lo) i).2 + tiN n fo ki st we lo i))), (5, .int (nI (sdN n fo st lo i))), (2, .int (nI ((wmS n (fun j => c1.testBit j) (tiN n fo ki st we lo) i).1))), (0, .ref (ad 0)), (1, .int (nI c1))]) hx hb dX3_wonBy_95 hl (k := 2) rfl xinc1 (by decide) rfl (fun ls hl => ?_)
                refine lv_goto (tgt := 7) hx hb dX3_wonBy_98 (by decide) ?_
                exact ih (i + 1) (zI ((wmS n (fun j => c1.testBit j) (tiN n fo ki st we lo) i).2 + tiN n fo ki st we lo i)) (nI ((wmS n (fun j => c1.testBit j) (tiN n fo ki st we lo) i).1)) (by rw [wm_n (by rw [decide_eq_false (show ¬ i + 1 = n by omega)]; simp [c_78])]; try rfl) (by rw [wm_n (by rw [decide_eq_false (show ¬ i + 1 = n by omega)]; simp [c_78])]; try rfl) (by omega) (by omega) ls (lv_sub hl [0, 1, 3, 4, 5] rfl)
              ·
                replace c_78 := bI_n0.mp c_78
                refine lv_iload_n hx hb dX3_wonBy_81 rfl (lv_at hl 3 rfl) ?_
                refine lv_iload_n hx hb dX3_wonBy_82 rfl (lv_at hl 0 rfl) ?_
                refine lv_if_le (tgt := 90) hx hb dX3_wonBy_83 (by decide) (fun c_83 => ?_) (fun c_83 => ?_)
                ·
                  replace c_83 : (zI ((wmS n (fun j => c1.testBit j) (tiN n fo ki st we lo) i).2 + tiN n fo ki st we lo i)).toInt ≤ 0 := (i32_lec (b := 0) (by omega)).mp c_83
                  refine lv_iconst (v := nI 0) hx hb dX3_wonBy_90 (by decide) ?_
                  refine xaddN hx hb dX3_wonBy_91 ?_
                  refine lv_istore_n (lv' := [(2, .int (nI ((wmS n (fun j => c1.testBit j) (tiN n fo ki st we lo) i).1 + 0))), (3, .int (zI ((wmS n (fun j => c1.testBit j) (tiN n fo ki st we lo) i).2 + tiN n fo ki st we lo i))), (5, .int (nI (sdN n fo st lo i))), (4, .int (nI i)), (0, .ref (ad 0)), (1, .int (nI c1))]) hx hb dX3_wonBy_92 rfl hl (by decide) rfl (fun ls hl => ?_)
                  refine lv_iconst (v := nI 0) hx hb dX3_wonBy_93 (by decide) ?_
                  refine lv_istore_n (lv' := [(3, .int (nI 0)), (2, .int (nI ((wmS n (fun j => c1.testBit j) (tiN n fo ki st we lo) i).1 + 0))), (5, .int (nI (sdN n fo st lo i))), (4, .int (nI i)), (0, .ref (ad 0)), (1, .int (nI c1))]) hx hb dX3_wonBy_94 rfl hl (by decide) rfl (fun ls hl => ?_)
                  refine lv_iinc (v := nI (i + 1)) (lv' := [(4, .int (nI (i + 1))), (3, .int (nI 0)), (2, .int (nI ((wmS n (fun j => c1.testBit j) (tiN n fo ki st we lo) i).1 + 0))), (5, .int (nI (sdN n fo st lo i))), (0, .ref (ad 0)), (1, .int (nI c1))]) hx hb dX3_wonBy_95 hl (k := 3) rfl xinc1 (by decide) rfl (fun ls hl => ?_)
                  refine lv_goto (tgt := 7) hx hb dX3_wonBy_98 (by decide) ?_
                  exact ih (i + 1) (nI 0) (nI ((wmS n (fun j => c1.testBit j) (tiN n fo ki st we lo) i).1 + 0)) (by rw [wm_y (by simp [c_78])]; try rfl) (by rw [wm_y (by simp [c_78]), if_neg (show ¬ 0 < (wmS n (fun j => c1.testBit j) (tiN n fo ki st we lo) i).2 + tiN n fo ki st we lo i by omega)]; try rfl) (by omega) (by omega) ls (lv_sub hl [0, 1, 2, 4, 5] rfl)
                ·
                  replace c_83 : ¬ (zI ((wmS n (fun j => c1.testBit j) (tiN n fo ki st we lo) i).2 + tiN n fo ki st we lo i)).toInt ≤ 0 := (not_congr (i32_lec (b := 0) (by omega))).mp c_83
                  refine lv_iconst (v := nI 1) hx hb dX3_wonBy_86 (by decide) ?_
                  refine lv_goto (tgt := 91) hx hb dX3_wonBy_87 (by decide) ?_
                  refine xaddN hx hb dX3_wonBy_91 ?_
                  refine lv_istore_n (lv' := [(2, .int (nI ((wmS n (fun j => c1.testBit j) (tiN n fo ki st we lo) i).1 + 1))), (3, .int (zI ((wmS n (fun j => c1.testBit j) (tiN n fo ki st we lo) i).2 + tiN n fo ki st we lo i))), (5, .int (nI (sdN n fo st lo i))), (4, .int (nI i)), (0, .ref (ad 0)), (1, .int (nI c1))]) hx hb dX3_wonBy_92 rfl hl (by decide) rfl (fun ls hl => ?_)
                  refine lv_iconst (v := nI 0) hx hb dX3_wonBy_93 (by decide) ?_
                  refine lv_istore_n (lv' := [(3, .int (nI 0)), (2, .int (nI ((wmS n (fun j => c1.testBit j) (tiN n fo ki st we lo) i).1 + 1))), (5, .int (nI (sdN n fo st lo i))), (4, .int (nI i)), (0, .ref (ad 0)), (1, .int (nI c1))]) hx hb dX3_wonBy_94 rfl hl (by decide) rfl (fun ls hl => ?_)
                  refine lv_iinc (v := nI (i + 1)) (lv' := [(4, .int (nI (i + 1))), (3, .int (nI 0)), (2, .int (nI ((wmS n (fun j => c1.testBit j) (tiN n fo ki st we lo) i).1 + 1))), (5, .int (nI (sdN n fo st lo i))), (0, .ref (ad 0)), (1, .int (nI c1))]) hx hb dX3_wonBy_95 hl (k := 3) rfl xinc1 (by decide) rfl (fun ls hl => ?_)
                  refine lv_goto (tgt := 7) hx hb dX3_wonBy_98 (by decide) ?_
                  exact ih (i + 1) (nI 0) (nI ((wmS n (fun j => c1.testBit j) (tiN n fo ki st we lo) i).1 + 1)) (by rw [wm_y (by simp [c_78])]; try rfl) (by rw [wm_y (by simp [c_78]), if_pos (show 0 < (wmS n (fun j => c1.testBit j) (tiN n fo ki st we lo) i).2 + tiN n fo ki st we lo i by omega)]; try rfl) (by omega) (by omega) ls (lv_sub hl [0, 1, 2, 4, 5] rfl)
        ·
          replace c_28 := (nI_eq (a := sdN n fo st lo i) (b := 1) (by omega) (by omega)).mp c_28
          refine lv_aload_n hx hb dX3_wonBy_31 rfl (lv_at hl 4 rfl) ?_
          refine lv_iload hx hb dX3_wonBy_32 (lv_at hl 1 rfl) ?_
          refine xrd (va_runV (As := [.int (nI i)]) (rest := [.int (zI (wmS n (fun j => c1.testBit j) (tiN n fo ki st we lo) i).2)]) hF (c_X3_votesOf l D cI cS ad fa n fo ki st we lo ra rch q0 q1 q2 q3 fk fc rd rc rv sh sle sla bg hd tr i (by first | assumption | omega) (by first | assumption | omega) (by first | assumption | omega) (by first | assumption | omega) (by first | assumption | omega)) (cwV 1 hts gX3_wonBy_X3_votesOf rfl rfl rfl hV_X3_votesOf ⟨Nat.le_of_ble_eq_true rfl, Nat.le_of_ble_eq_true rfl⟩) (PR.preV hG hP (ci := 3) rfl rfl) rfl rfl hl.1 rfl (lv_room (Nat.le_of_ble_eq_true rfl)) dX3_wonBy_34 ⟨Nat.le_refl _, Nat.le_refl _⟩) ?_
          refine lv_goto (tgt := 57) hx hb dX3_wonBy_37 (by decide) ?_
          refine lv_iadd hx hb dX3_wonBy_57 ?_
          refine xtop (x' := zI ((wmS n (fun j => c1.testBit j) (tiN n fo ki st we lo) i).2 + tiN n fo ki st we lo i)) (by first | exact tm_1 c_28 | exact tm_2 c_28 c_43 | exact tm_3 c_28 c_43) ?_
          refine lv_istore_n (lv' := [(3, .int (zI ((wmS n (fun j => c1.testBit j) (tiN n fo ki st we lo) i).2 + tiN n fo ki st we lo i))), (5, .int (nI (sdN n fo st lo i))), (4, .int (nI i)), (2, .int (nI ((wmS n (fun j => c1.testBit j) (tiN n fo ki st we lo) i).1))), (0, .ref (ad 0)), (1, .int (nI c1))]) hx hb dX3_wonBy_58 rfl hl (by decide) rfl (fun ls hl => ?_)
          refine lv_iload hx hb dX3_wonBy_59 (lv_at hl 2 rfl) ?_
          refine lv_aload_n hx hb dX3_wonBy_61 rfl (lv_at hl 4 rfl) ?_
          refine va_get (D := D) (ci := 3) (v := .int (nI n)) (C := RX3) (T := TX3) (N := 23) hx hb yX3 (fun _ h => h) hown hG.1 hP 0 rfl rfl 1 (by decide) f65 (fun _ h => h) rfl dX3_wonBy_62 ?_
          refine lv_iconst (v := nI 1) hx hb dX3_wonBy_65 (by decide) ?_
          refine xsubN (x := n) (y := 1) hx hb (by omega) dX3_wonBy_66 ?_
          refine lv_icmp_eq (tgt := 81) hx hb dX3_wonBy_67 (by decide) (fun c_67 => ?_) (fun c_67 => ?_)
          ·
            replace c_67 := (nI_eq (a := i) (b := n - 1) (by omega) (by omega)).mp c_67
            refine lv_iload_n hx hb dX3_wonBy_81 rfl (lv_at hl 3 rfl) ?_
            refine lv_iload_n hx hb dX3_wonBy_82 rfl (lv_at hl 0 rfl) ?_
            refine lv_if_le (tgt := 90) hx hb dX3_wonBy_83 (by decide) (fun c_83 => ?_) (fun c_83 => ?_)
            ·
              replace c_83 : (zI ((wmS n (fun j => c1.testBit j) (tiN n fo ki st we lo) i).2 + tiN n fo ki st we lo i)).toInt ≤ 0 := (i32_lec (b := 0) (by omega)).mp c_83
              refine lv_iconst (v := nI 0) hx hb dX3_wonBy_90 (by decide) ?_
              refine xaddN hx hb dX3_wonBy_91 ?_
              refine lv_istore_n (lv' := [(2, .int (nI ((wmS n (fun j => c1.testBit j) (tiN n fo ki st we lo) i).1 + 0))), (3, .int (zI ((wmS n (fun j => c1.testBit j) (tiN n fo ki st we lo) i).2 + tiN n fo ki st we lo i))), (5, .int (nI (sdN n fo st lo i))), (4, .int (nI i)), (0, .ref (ad 0)), (1, .int (nI c1))]) hx hb dX3_wonBy_92 rfl hl (by decide) rfl (fun ls hl => ?_)
              refine lv_iconst (v := nI 0) hx hb dX3_wonBy_93 (by decide) ?_
              refine lv_istore_n (lv' := [(3, .int (nI 0)), (2, .int (nI ((wmS n (fun j => c1.testBit j) (tiN n fo ki st we lo) i).1 + 0))), (5, .int (nI (sdN n fo st lo i))), (4, .int (nI i)), (0, .ref (ad 0)), (1, .int (nI c1))]) hx hb dX3_wonBy_94 rfl hl (by decide) rfl (fun ls hl => ?_)
              refine lv_iinc (v := nI (i + 1)) (lv' := [(4, .int (nI (i + 1))), (3, .int (nI 0)), (2, .int (nI ((wmS n (fun j => c1.testBit j) (tiN n fo ki st we lo) i).1 + 0))), (5, .int (nI (sdN n fo st lo i))), (0, .ref (ad 0)), (1, .int (nI c1))]) hx hb dX3_wonBy_95 hl (k := 3) rfl xinc1 (by decide) rfl (fun ls hl => ?_)
              refine lv_goto (tgt := 7) hx hb dX3_wonBy_98 (by decide) ?_
              exact ih (i + 1) (nI 0) (nI ((wmS n (fun j => c1.testBit j) (tiN n fo ki st we lo) i).1 + 0)) (by rw [wm_y (by rw [decide_eq_true (show i + 1 = n by omega)]; rfl)]; try rfl) (by rw [wm_y (by rw [decide_eq_true (show i + 1 = n by omega)]; rfl), if_neg (show ¬ 0 < (wmS n (fun j => c1.testBit j) (tiN n fo ki st we lo) i).2 + tiN n fo ki st we lo i by omega)]; try rfl) (by omega) (by omega) ls (lv_sub hl [0, 1, 2, 4, 5] rfl)
            ·
              replace c_83 : ¬ (zI ((wmS n (fun j => c1.testBit j) (tiN n fo ki st we lo) i).2 + tiN n fo ki st we lo i)).toInt ≤ 0 := (not_congr (i32_lec (b := 0) (by omega))).mp c_83
              refine lv_iconst (v := nI 1) hx hb dX3_wonBy_86 (by decide) ?_
              refine lv_goto (tgt := 91) hx hb dX3_wonBy_87 (by decide) ?_
              refine xaddN hx hb dX3_wonBy_91 ?_
              refine lv_istore_n (lv' := [(2, .int (nI ((wmS n (fun j => c1.testBit j) (tiN n fo ki st we lo) i).1 + 1))), (3, .int (zI ((wmS n (fun j => c1.testBit j) (tiN n fo ki st we lo) i).2 + tiN n fo ki st we lo i))), (5, .int (nI (sdN n fo st lo i))), (4, .int (nI i)), (0, .ref (ad 0)), (1, .int (nI c1))]) hx hb dX3_wonBy_92 rfl hl (by decide) rfl (fun ls hl => ?_)
              refine lv_iconst (v := nI 0) hx hb dX3_wonBy_93 (by decide) ?_
              refine lv_istore_n (lv' := [(3, .int (nI 0)), (2, .int (nI ((wmS n (fun j => c1.testBit j) (tiN n fo ki st we lo) i).1 + 1))), (5, .int (nI (sdN n fo st lo i))), (4, .int (nI i)), (0, .ref (ad 0)), (1, .int (nI c1))]) hx hb dX3_wonBy_94 rfl hl (by decide) rfl (fun ls hl => ?_)
              refine lv_iinc (v := nI (i + 1)) (lv' := [(4, .int (nI (i + 1))), (3, .int (nI 0)), (2, .int (nI ((wmS n (fun j => c1.testBit j) (tiN n fo ki st we lo) i).1 + 1))), (5, .int (nI (sdN n fo st lo i))), (0, .ref (ad 0)), (1, .int (nI c1))]) hx hb dX3_wonBy_95 hl (k := 3) rfl xinc1 (by decide) rfl (fun ls hl => ?_)
              refine lv_goto (tgt := 7) hx hb dX3_wonBy_98 (by decide) ?_
              exact ih (i + 1) (nI 0) (nI ((wmS n (fun j => c1.testBit j) (tiN n fo ki st we lo) i).1 + 1)) (by rw [wm_y (by rw [decide_eq_true (show i + 1 = n by omega)]; rfl)]; try rfl) (by rw [wm_y (by rw [decide_eq_true (show i + 1 = n by omega)]; rfl), if_pos (show 0 < (wmS n (fun j => c1.testBit j) (tiN n fo ki st we lo) i).2 + tiN n fo ki st we lo i by omega)]; try rfl) (by omega) (by omega) ls (lv_sub hl [0, 1, 2, 4, 5] rfl)
          ·
            replace c_67 := (not_congr (nI_eq (a := i) (b := n - 1) (by omega) (by omega))).mp c_67
            refine lv_iload_n hx hb dX3_wonBy_70 rfl (lv_at hl 5 rfl) ?_
            refine lv_iload hx hb dX3_wonBy_71 (lv_at hl 2 rfl) ?_
            refine lv_iconst (v := nI 1) hx hb dX3_wonBy_73 (by decide) ?_
            refine xaddN hx hb dX3_wonBy_74 ?_
            refine xrd (va_runS (As := [.int (nI c1), .int (nI (i + 1))]) (rest := []) hF (c_X3_isIn l D cI cS c1 (i + 1) (by first | assumption | omega) (by first | assumption | omega)) (va_cwS 2 hts gX3_wonBy_X3_isIn rfl rfl rfl hD_X3_isIn ⟨Nat.le_of_ble_eq_true rfl, Nat.le_of_ble_eq_true rfl⟩) (PR.pre hG (hP.sub (ws' := []) [] rfl)) rfl rfl hl.1 rfl (lv_room (Nat.le_of_ble_eq_true rfl)) dX3_wonBy_75 ⟨Nat.le_refl _, Nat.le_refl _⟩) ?_
            refine lv_if_eq (tgt := 95) hx hb dX3_wonBy_78 (by decide) (fun c_78 => ?_) (fun c_78 => ?_)
            ·
              replace c_78 := bI_0.mp c_78
              refine lv_iinc (v := nI (i + 1)) (lv' := [(4, .int (nI (i + 1))), (3, .int (zI ((wmS n (fun j => c1.testBit j) (tiN n fo ki st we lo) i).2 + tiN n fo ki st we lo i))), (5, .int (nI (sdN n fo st lo i))), (2, .int (nI ((wmS n (fun j => c1.testBit j) (tiN n fo ki st we lo) i).1))), (0, .ref (ad 0)), (1, .int (nI c1))]) hx hb dX3_wonBy_95 hl (k := 2) rfl xinc1 (by decide) rfl (fun ls hl => ?_)
              refine lv_goto (tgt := 7) hx hb dX3_wonBy_98 (by decide) ?_
              exact ih (i + 1) (zI ((wmS n (fun j => c1.testBit j) (tiN n fo ki st we lo) i).2 + tiN n fo ki st we lo i)) (nI ((wmS n (fun j => c1.testBit j) (tiN n fo ki st we lo) i).1)) (by rw [wm_n (by rw [decide_eq_false (show ¬ i + 1 = n by omega)]; simp [c_78])]; try rfl) (by rw [wm_n (by rw [decide_eq_false (show ¬ i + 1 = n by omega)]; simp [c_78])]; try rfl) (by omega) (by omega) ls (lv_sub hl [0, 1, 3, 4, 5] rfl)
            ·
              replace c_78 := bI_n0.mp c_78
              refine lv_iload_n hx hb dX3_wonBy_81 rfl (lv_at hl 3 rfl) ?_
              refine lv_iload_n hx hb dX3_wonBy_82 rfl (lv_at hl 0 rfl) ?_
              refine lv_if_le (tgt := 90) hx hb dX3_wonBy_83 (by decide) (fun c_83 => ?_) (fun c_83 => ?_)
              ·
                replace c_83 : (zI ((wmS n (fun j => c1.testBit j) (tiN n fo ki st we lo) i).2 + tiN n fo ki st we lo i)).toInt ≤ 0 := (i32_lec (b := 0) (by omega)).mp c_83
                refine lv_iconst (v := nI 0) hx hb dX3_wonBy_90 (by decide) ?_
                refine xaddN hx hb dX3_wonBy_91 ?_
                refine lv_istore_n (lv' := [(2, .int (nI ((wmS n (fun j => c1.testBit j) (tiN n fo ki st we lo) i).1 + 0))), (3, .int (zI ((wmS n (fun j => c1.testBit j) (tiN n fo ki st we lo) i).2 + tiN n fo ki st we lo i))), (5, .int (nI (sdN n fo st lo i))), (4, .int (nI i)), (0, .ref (ad 0)), (1, .int (nI c1))]) hx hb dX3_wonBy_92 rfl hl (by decide) rfl (fun ls hl => ?_)
                refine lv_iconst (v := nI 0) hx hb dX3_wonBy_93 (by decide) ?_
                refine lv_istore_n (lv' := [(3, .int (nI 0)), (2, .int (nI ((wmS n (fun j => c1.testBit j) (tiN n fo ki st we lo) i).1 + 0))), (5, .int (nI (sdN n fo st lo i))), (4, .int (nI i)), (0, .ref (ad 0)), (1, .int (nI c1))]) hx hb dX3_wonBy_94 rfl hl (by decide) rfl (fun ls hl => ?_)
                refine lv_iinc (v := nI (i + 1)) (lv' := [(4, .int (nI (i + 1))), (3, .int (nI 0)), (2, .int (nI ((wmS n (fun j => c1.testBit j) (tiN n fo ki st we lo) i).1 + 0))), (5, .int (nI (sdN n fo st lo i))), (0, .ref (ad 0)), (1, .int (nI c1))]) hx hb dX3_wonBy_95 hl (k := 3) rfl xinc1 (by decide) rfl (fun ls hl => ?_)
                refine lv_goto (tgt := 7) hx hb dX3_wonBy_98 (by decide) ?_
                exact ih (i + 1) (nI 0) (nI ((wmS n (fun j => c1.testBit j) (tiN n fo ki st we lo) i).1 + 0)) (by rw [wm_y (by simp [c_78])]; try rfl) (by rw [wm_y (by simp [c_78]), if_neg (show ¬ 0 < (wmS n (fun j => c1.testBit j) (tiN n fo ki st we lo) i).2 + tiN n fo ki st we lo i by omega)]; try rfl) (by omega) (by omega) ls (lv_sub hl [0, 1, 2, 4, 5] rfl)
              ·
                replace c_83 : ¬ (zI ((wmS n (fun j => c1.testBit j) (tiN n fo ki st we lo) i).2 + tiN n fo ki st we lo i)).toInt ≤ 0 := (not_congr (i32_lec (b := 0) (by omega))).mp c_83
                refine lv_iconst (v := nI 1) hx hb dX3_wonBy_86 (by decide) ?_
                refine lv_goto (tgt := 91) hx hb dX3_wonBy_87 (by decide) ?_
                refine xaddN hx hb dX3_wonBy_91 ?_
                refine lv_istore_n (lv' := [(2, .int (nI ((wmS n (fun j => c1.testBit j) (tiN n fo ki st we lo) i).1 + 1))), (3, .int (zI ((wmS n (fun j => c1.testBit j) (tiN n fo ki st we lo) i).2 + tiN n fo ki st we lo i))), (5, .int (nI (sdN n fo st lo i))), (4, .int (nI i)), (0, .ref (ad 0)), (1, .int (nI c1))]) hx hb dX3_wonBy_92 rfl hl (by decide) rfl (fun ls hl => ?_)
                refine lv_iconst (v := nI 0) hx hb dX3_wonBy_93 (by decide) ?_
                refine lv_istore_n (lv' := [(3, .int (nI 0)), (2, .int (nI ((wmS n (fun j => c1.testBit j) (tiN n fo ki st we lo) i).1 + 1))), (5, .int (nI (sdN n fo st lo i))), (4, .int (nI i)), (0, .ref (ad 0)), (1, .int (nI c1))]) hx hb dX3_wonBy_94 rfl hl (by decide) rfl (fun ls hl => ?_)
                refine lv_iinc (v := nI (i + 1)) (lv' := [(4, .int (nI (i + 1))), (3, .int (nI 0)), (2, .int (nI ((wmS n (fun j => c1.testBit j) (tiN n fo ki st we lo) i).1 + 1))), (5, .int (nI (sdN n fo st lo i))), (0, .ref (ad 0)), (1, .int (nI c1))]) hx hb dX3_wonBy_95 hl (k := 3) rfl xinc1 (by decide) rfl (fun ls hl => ?_)
                refine lv_goto (tgt := 7) hx hb dX3_wonBy_98 (by decide) ?_
                exact ih (i + 1) (nI 0) (nI ((wmS n (fun j => c1.testBit j) (tiN n fo ki st we lo) i).1 + 1)) (by rw [wm_y (by simp [c_78])]; try rfl) (by rw [wm_y (by simp [c_78]), if_pos (show 0 < (wmS n (fun j => c1.testBit j) (tiN n fo ki st we lo) i).2 + tiN n fo ki st we lo i by omega)]; try rfl) (by omega) (by omega) ls (lv_sub hl [0, 1, 2, 4, 5] rfl)
  exact K7 _ 0 (nI 0) (nI 0) (by first | rfl | exact Nat.zero_le _ | omega | assumption) (by first | rfl | exact Nat.zero_le _ | omega | assumption) (by first | rfl | exact Nat.zero_le _ | omega | assumption) (Nat.lt_succ_self _) ls (lv_sub hl [0, 1, 2, 3, 4] rfl)

set_option maxHeartbeats 4000000 in
set_option maxRecDepth 100000 in
theorem c_X3_beginOf (l : Launch) (D : va_G) (cI cS : ClassId) (c1 : Nat) (w : Nat) (hc1 : c1 < 256) (hev : c1 % 2 = 0) (hw : w ≤ popN c1) : Met l yX3_beginOf wsX3_beginOf ({ frames := 1, cells := 0, slots := 0, locals := 21 }) (PR D cI cS [.int (nI c1), .int (nI w)] []) (vp_Si (fun r => r = nI (bgF c1 7 w 0))) 0 0 (fun _ => False) := by
  refine startR (by decide) rfl (Nat.le_of_ble_eq_true rfl) ?_
  intro p e s m below meth c hx hb hr hts hown hlk hml hG hP ls hl
  have hl : lv_has ls 4 [(0, .int (nI c1)), (1, .int (nI w))] := hl
  have hF : CallFix p m c cX3_beginOf 4 s _ wsX3_beginOf RX3 := ⟨hx, hb, hml, hown, hts⟩
  have hp8 := popN_le c1
  refine lv_iload_n hx hb dX3_beginOf_0 rfl (lv_at hl 1 rfl) ?_
  refine lv_istore_n (lv' := [(2, .int (nI w)), (0, .int (nI c1)), (1, .int (nI w))]) hx hb dX3_beginOf_1 rfl hl (by decide) rfl (fun ls hl => ?_)
  refine lv_iconst (v := nI 0) hx hb dX3_beginOf_2 (by decide) ?_
  refine lv_istore_n (lv' := [(3, .int (nI 0)), (2, .int (nI w)), (0, .int (nI c1)), (1, .int (nI w))]) hx hb dX3_beginOf_3 rfl hl (by decide) rfl (fun ls hl => ?_)
  have K4 : ∀ (fuel : Nat) (lf : Nat) (a : Nat), (a ≤ 7) → (lf + cntN (Nat.testBit c1) (a + 1) ≤ popN c1) → (bgF c1 (7 - a) lf a = bgF c1 7 w 0) → (8 - a) < fuel → ∀ ls : Array Slot, lv_has ls 4 [(3, .int (nI a)), (2, .int (nI lf)), (0, .int (nI c1)), (1, .int (nI w))] → W p l e ({ frames := 1, cells := 0, slots := 0, locals := 21 }) s m (([.int (nI c1), .int (nI w)] : List Value).toArray) below meth c s.heap [] 0 0 (MQ below (vp_Si (fun r => r = nI (bgF c1 7 w 0))) (([.int (nI c1), .int (nI w)] : List Value).toArray) s 0 0 (fun _ => False)) (F0 m 4 ls []) := by
    intro fuel
    induction fuel with
    | zero => intro lf a ha hl9 he hmu; exact absurd hmu (Nat.not_lt_zero _)
    | succ fuel ih =>
      intro lf a ha hl9 he hmu ls hl
      refine lv_iload_n hx hb dX3_beginOf_4 rfl (lv_at hl 1 rfl) ?_
      refine lv_if_le (tgt := 30) hx hb dX3_beginOf_5 (by decide) (fun c_5 => ?_) (fun c_5 => ?_)
      ·
        replace c_5 := (nI_leI (a := lf) (b := 0) (by omega) (by omega)).mp c_5
        refine lv_iload_n hx hb dX3_beginOf_30 rfl (lv_at hl 0 rfl) ?_
        exact xretR hx hb hr hlk dX3_beginOf_31 (by have h0 : lf = 0 := (by omega); rw [h0, bg_stop] at he; exact congrArg nI he)
      ·
        replace c_5 := (not_congr (nI_leI (a := lf) (b := 0) (by omega) (by omega))).mp c_5
        have ha7 := bg_go ha (by omega) hl9
        refine lv_iinc (v := nI (a + 1)) (lv' := [(3, .int (nI (a + 1))), (2, .int (nI lf)), (0, .int (nI c1)), (1, .int (nI w))]) hx hb dX3_beginOf_8 hl (k := 0) rfl xinc1 (by decide) rfl (fun ls hl => ?_)
        refine lv_iload_n hx hb dX3_beginOf_11 rfl (lv_at hl 1 rfl) ?_
        refine lv_iload_n hx hb dX3_beginOf_12 rfl (lv_at hl 2 rfl) ?_
        refine lv_iload_n hx hb dX3_beginOf_13 rfl (lv_at hl 0 rfl) ?_
        refine xrd (va_runS (As := [.int (nI c1), .int (nI (a + 1))]) (rest := [.int (nI lf)]) hF (c_X3_isIn l D cI cS c1 (a + 1) (by first | assumption | omega) (by first | assumption | omega)) (va_cwS 2 hts gX3_beginOf_X3_isIn rfl rfl rfl hD_X3_isIn ⟨Nat.le_of_ble_eq_true rfl, Nat.le_of_ble_eq_true rfl⟩) (PR.pre hG (hP.sub (ws' := []) [] rfl)) rfl rfl hl.1 rfl (lv_room (Nat.le_of_ble_eq_true rfl)) dX3_beginOf_14 ⟨Nat.le_refl _, Nat.le_refl _⟩) ?_
        refine lv_if_eq (tgt := 24) hx hb dX3_beginOf_17 (by decide) (fun c_17 => ?_) (fun c_17 => ?_)
        ·
          replace c_17 := bI_0.mp c_17
          refine lv_iconst (v := nI 0) hx hb dX3_beginOf_24 (by decide) ?_
          refine xsubN (x := lf) (y := 0) hx hb (by omega) dX3_beginOf_25 ?_
          refine lv_istore_n (lv' := [(2, .int (nI (lf - 0))), (3, .int (nI (a + 1))), (0, .int (nI c1)), (1, .int (nI w))]) hx hb dX3_beginOf_26 rfl hl (by decide) rfl (fun ls hl => ?_)
          refine lv_goto (tgt := 4) hx hb dX3_beginOf_27 (by decide) ?_
          exact ih (lf - 0) (a + 1)  (by omega) (by have e := cnt_n (P := Nat.testBit c1) c_17; omega) (by rw [← he, show 7 - a = (7 - (a + 1)) + 1 by omega, bg_n (by omega) c_17]; try rfl) (by omega) ls (lv_sub hl [1, 0, 2, 3] rfl)
        ·
          replace c_17 := bI_n0.mp c_17
          refine lv_iconst (v := nI 1) hx hb dX3_beginOf_20 (by decide) ?_
          refine lv_goto (tgt := 25) hx hb dX3_beginOf_21 (by decide) ?_
          refine xsubN (x := lf) (y := 1) hx hb (by omega) dX3_beginOf_25 ?_
          refine lv_istore_n (lv' := [(2, .int (nI (lf - 1))), (3, .int (nI (a + 1))), (0, .int (nI c1)), (1, .int (nI w))]) hx hb dX3_beginOf_26 rfl hl (by decide) rfl (fun ls hl => ?_)
          refine lv_goto (tgt := 4) hx hb dX3_beginOf_27 (by decide) ?_
          exact ih (lf - 1) (a + 1)  (by omega) (by have e := cnt_y (P := Nat.testBit c1) c_17; omega) (by rw [← he, show 7 - a = (7 - (a + 1)) + 1 by omega, bg_y (by omega) c_17]; try rfl) (by omega) ls (lv_sub hl [1, 0, 2, 3] rfl)
  exact K4 _ w 0  (by first | rfl | omega | exact bg_in hev hw) (by first | rfl | omega | exact bg_in hev hw) (by first | rfl | omega | exact bg_in hev hw) (Nat.lt_succ_self _) ls (lv_sub hl [0, 1, 2, 3] rfl)

set_option maxHeartbeats 4000000 in
set_option maxRecDepth 100000 in
theorem c_X3_isAhead (l : Launch) (D : va_G) (cI cS : ClassId) (a : Nat) (b : Nat) (ha : a < 256) (hb9 : b < 256) : Met l yX3_isAhead wsX3_isAhead ({ frames := 0, cells := 0, slots := 0, locals := 0 }) (PR D cI cS [.int (nI a), .int (nI b)] []) (vp_Si (fun r => r = bI (iahB a b))) 0 0 (fun _ => False) := by
  refine startR (by decide) rfl (Nat.le_of_ble_eq_true rfl) ?_
  intro p e s m below meth c hx hb hr hts hown hlk hml hG hP ls hl
  have hl : lv_has ls 3 [(0, .int (nI a)), (1, .int (nI b))] := hl
  have hF : CallFix p m c cX3_isAhead 3 s _ wsX3_isAhead RX3 := ⟨hx, hb, hml, hown, hts⟩
  have hx9 : a ^^^ b < 256 := Nat.xor_lt_two_pow (n := 8) ha hb9
  have hy9 := and_lt (a := (a ^^^ b) &&& (256 - (a ^^^ b))) ha
  refine lv_iload_n hx hb dX3_isAhead_0 rfl (lv_at hl 0 rfl) ?_
  refine lv_iload_n hx hb dX3_isAhead_1 rfl (lv_at hl 1 rfl) ?_
  refine lv_ixor hx hb dX3_isAhead_2 ?_
  refine xtop (x' := nI (a ^^^ b)) (nI_xor _ _) ?_
  refine lv_istore_n (lv' := [(2, .int (nI (a ^^^ b))), (0, .int (nI a)), (1, .int (nI b))]) hx hb dX3_isAhead_3 rfl hl (by decide) rfl (fun ls hl => ?_)
  refine lv_iload_n hx hb dX3_isAhead_4 rfl (lv_at hl 0 rfl) ?_
  refine lv_iload_n hx hb dX3_isAhead_5 rfl (lv_at hl 0 rfl) ?_
  refine lv_ineg hx hb dX3_isAhead_6 ?_
  refine lv_iand hx hb dX3_isAhead_7 ?_
  refine xtop (x' := nI ((a ^^^ b) &&& (256 - (a ^^^ b)))) (by exact lowb _ hx9) ?_
  refine lv_iload_n hx hb dX3_isAhead_8 rfl (lv_at hl 1 rfl) ?_
  refine lv_iand hx hb dX3_isAhead_9 ?_
  refine xtop (x' := nI (((a ^^^ b) &&& (256 - (a ^^^ b))) &&& a)) (nI_and _ _) ?_
  refine lv_if_eq (tgt := 17) hx hb dX3_isAhead_10 (by decide) (fun c_10 => ?_) (fun c_10 => ?_)
  ·
    replace c_10 := (nI_eq (a := ((a ^^^ b) &&& (256 - (a ^^^ b))) &&& a) (b := 0) (by omega) (by omega)).mp c_10
    refine lv_iconst (v := nI 0) hx hb dX3_isAhead_17 (by decide) ?_
    exact xretRz hx hb hr hlk dX3_isAhead_18 (false) rfl (by simp [iahB, bI_true, bI_false, c_10])
  ·
    replace c_10 := (not_congr (nI_eq (a := ((a ^^^ b) &&& (256 - (a ^^^ b))) &&& a) (b := 0) (by omega) (by omega))).mp c_10
    refine lv_iconst (v := nI 1) hx hb dX3_isAhead_13 (by decide) ?_
    refine lv_goto (tgt := 18) hx hb dX3_isAhead_14 (by decide) ?_
    exact xretRz hx hb hr hlk dX3_isAhead_18 (true) rfl (by simp [iahB, bI_true, bI_false, c_10])

set_option maxHeartbeats 4000000 in
set_option maxRecDepth 100000 in
theorem c_X3_wards (l : Launch) (D : va_G) (cI cS : ClassId) (ad : Nat → Nat) (fa : Nat) (n : Nat) (fo : Nat) (ki : Nat → Nat) (st : Nat → Nat) (we : Nat → Nat) (lo : Nat → Nat) (ra : Nat) (rch : Nat) (q0 : Nat → Int32) (q1 : Nat → Int32) (q2 : Nat → Int32) (q3 : Nat → Int32) (fk : Nat) (fc : Nat → Nat) (rd : Nat) (rc : Nat → Nat) (rv : Nat → Nat) (sh : Nat → Bool) (sle : Nat → Nat) (sla : Nat → Nat) (bg : Nat → Int32) (hd : Nat → Int32) (tr : Int32) (k : Int32) (v : Int32) (hn : n ≤ 8) (hfo : fo < 256) (hki : ∀ j, ki j ≤ 2) (hwe : ∀ j, we j ≤ 9) (hst : ∀ j, st j ≤ 3) (hlo : ∀ j, lo j ≤ 3) : Met l yX3_wards wsX3_wards ({ frames := 4, cells := 0, slots := 0, locals := 90 }) (PR D cI cS [.ref (ad 0), .int k, .int v] (wM cI ad fa n fo ki st we lo ra rch q0 q1 q2 q3 fk fc rd rc rv sh sle sla bg hd tr)) (vp_Si (fun r => r = A_wards n fo ki st we lo k v)) 0 0 (fun _ => False) := by
  refine startR (by decide) rfl (Nat.le_of_ble_eq_true rfl) ?_
  intro p e s m below meth c hx hb hr hts hown hlk hml hG hP ls hl
  have hl : lv_has ls 8 [(0, .ref (ad 0)), (1, .int k), (2, .int v)] := hl
  have f65 := hts (.fieldLink RX3 65 "ChairBallotModel" "chairs" "I") (by decide +kernel)
  have yX3 : ∀ w ∈ u_ws RX3 TX3 23, w.before _ s = true := fun w h => hts w ((by decide +kernel : ∀ w ∈ wsX30, w ∈ wsX3_wards) w h)
  have hF : CallFix p m c cX3_wards 8 s _ wsX3_wards RX3 := ⟨hx, hb, hml, hown, hts⟩
  have h2n := two_pow_le hn
  have h1n : 1 ≤ 2 ^ n := Nat.one_le_two_pow
  refine lv_aload_n hx hb dX3_wards_0 rfl (lv_at hl 0 rfl) ?_
  refine va_get (D := D) (ci := 3) (v := .int (nI n)) (C := RX3) (T := TX3) (N := 23) hx hb yX3 (fun _ h => h) hown hG.1 hP 0 rfl rfl 1 (by decide) f65 (fun _ h => h) rfl dX3_wards_1 ?_
  refine lv_if_ne (tgt := 10) hx hb dX3_wards_4 (by decide) (fun c_4 => ?_) (fun c_4 => ?_)
  ·
    replace c_4 := (not_congr (nI_eq (a := n) (b := 0) (by omega) (by omega))).mp c_4
    have hn0 : ¬ n = 0 := by omega
    refine lv_iload_n hx hb dX3_wards_10 rfl (lv_at hl 1 rfl) ?_
    refine lv_i2l (v := k.toInt64) hx hb dX3_wards_11 rfl ?_
    refine lv_lconst (v := lN 1) hx hb dX3_wards_12 rfl ?_
    refine lv_ldc2 (v := 8) hx hb hown (hts (.constantLong RX3 197 (8)) (by decide +kernel)) dX3_wards_13 ?_
    refine xtopl (x' := lN 8) rfl ?_
    refine xrd (va_runS (As := [.long k.toInt64, .long (lN 1), .long (lN 8)]) (rest := []) hF (c_X3_in l D cI cS k 1 8 (by first | assumption | omega) (by first | assumption | omega)) (va_cwS 3 hts gX3_wards_X3_in rfl rfl rfl hD_X3_in ⟨Nat.le_of_ble_eq_true rfl, Nat.le_of_ble_eq_true rfl⟩) (PR.pre hG (hP.sub (ws' := []) [] rfl)) rfl rfl hl.1 rfl (lv_room (Nat.le_of_ble_eq_true rfl)) dX3_wards_16 ⟨Nat.le_refl _, Nat.le_refl _⟩) ?_
    refine xtop (x' := bI (rgB 1 8 k)) rfl ?_
    refine lv_if_eq (tgt := 36) hx hb dX3_wards_19 (by decide) (fun c_19 => ?_) (fun c_19 => ?_)
    ·
      replace c_19 := bI_0.mp c_19
      refine lv_bipush (v := (-2)) hx hb dX3_wards_36 (by decide) ?_
      exact xretR hx hb hr hlk dX3_wards_38 (by simp [A_wards, c_4, hn0, c_19])
    ·
      replace c_19 := bI_n0.mp c_19
      obtain ⟨nn, hnn0, hnn1, rfl⟩ := rgB_nat (by decide) c_19
      have hclnn := cl8 (j := nn) (by omega)
      refine lv_iload_n hx hb dX3_wards_22 rfl (lv_at hl 2 rfl) ?_
      refine lv_i2l (v := v.toInt64) hx hb dX3_wards_23 rfl ?_
      refine lv_ldc2 (v := -1) hx hb hown (hts (.constantLong RX3 199 (-1)) (by decide +kernel)) dX3_wards_24 ?_
      refine lv_ldc2 (v := 7) hx hb hown (hts (.constantLong RX3 169 (7)) (by decide +kernel)) dX3_wards_27 ?_
      refine xtopl (x' := lN 7) rfl ?_
      refine xrd (va_runS (As := [.long v.toInt64, .long (-1), .long (lN 7)]) (rest := []) hF (c_X3_inM l D cI cS v 7 (by first | assumption | omega)) (va_cwS 3 hts gX3_wards_X3_in rfl rfl rfl hD_X3_in ⟨Nat.le_of_ble_eq_true rfl, Nat.le_of_ble_eq_true rfl⟩) (PR.pre hG (hP.sub (ws' := []) [] rfl)) rfl rfl hl.1 rfl (lv_room (Nat.le_of_ble_eq_true rfl)) dX3_wards_30 ⟨Nat.le_refl _, Nat.le_refl _⟩) ?_
      refine xtop (x' := bI (rgB (-1) 7 v)) rfl ?_
      refine lv_if_ne (tgt := 39) hx hb dX3_wards_33 (by decide) (fun c_33 => ?_) (fun c_33 => ?_)
      ·
        replace c_33 := bI_n0.mp c_33
        have hv7 := of_decide_eq_true c_33
        refine lv_bipush (v := (-9)) hx hb dX3_wards_39 (by decide) ?_
        refine lv_istore_n (lv' := [(3, .int (-9)), (0, .ref (ad 0)), (1, .int (nI nn)), (2, .int v)]) hx hb dX3_wards_41 rfl hl (by decide) rfl (fun ls hl => ?_)
        refine lv_bipush (v := (-9)) hx hb dX3_wards_42 (by decide) ?_
        refine lv_istore (lv' := [(4, .int (-9)), (3, .int (-9)), (0, .ref (ad 0)), (1, .int (nI nn)), (2, .int v)]) hx hb dX3_wards_44 hl (by decide) rfl (fun ls hl => ?_)
        refine lv_iconst (v := nI 0) hx hb dX3_wards_46 (by decide) ?_
        refine lv_istore (lv' := [(5, .int (nI 0)), (4, .int (-9)), (3, .int (-9)), (0, .ref (ad 0)), (1, .int (nI nn)), (2, .int v)]) hx hb dX3_wards_47 hl (by decide) rfl (fun ls hl => ?_)
        have K49 : ∀ (fuel : Nat) (i : Nat) (x5 : Int32) (x4 : Int32) (x3 : Int32), x5 = nI (2 * i) → x4 = optM (winM n fo ki st we lo) (moO (winM n fo ki st we lo) nn i) → x3 = optI (moO (winM n fo ki st we lo) nn i) → (i ≤ 2 ^ (n - 1)) → (2 ^ (n - 1) - i) < fuel → ∀ ls : Array Slot, lv_has ls 8 [(5, .int x5), (4, .int x4), (3, .int x3), (0, .ref (ad 0)), (1, .int (nI nn)), (2, .int v)] → W p l e ({ frames := 4, cells := 0, slots := 0, locals := 90 }) s m (([.ref (ad 0), .int (nI nn), .int v] : List Value).toArray) below meth c s.heap [] 0 0 (MQ below (vp_Si (fun r => r = A_wards n fo ki st we lo (nI nn) v)) (([.ref (ad 0), .int (nI nn), .int v] : List Value).toArray) s 0 0 (fun _ => False)) (F0 m 49 ls []) := by
          intro fuel
          induction fuel with
          | zero => intro i x5 x4 x3 e_x5 e_x4 e_x3 hi hmu; exact absurd hmu (Nat.not_lt_zero _)
          | succ fuel ih =>
            intro i x5 x4 x3 e_x5 e_x4 e_x3 hi hmu ls hl
            subst e_x5
            subst e_x4
            subst e_x3
            have hp2 := pow_2 (n := n) (by omega)
            have hpi := popN_le (2 * i)
            have hwl := winM_lt (fo := fo) (ki := ki) (st := st) (lo := lo) hwe hn (2 * i)
            refine lv_iload hx hb dX3_wards_49 (lv_at hl 0 rfl) ?_
            refine lv_aload_n hx hb dX3_wards_51 rfl (lv_at hl 3 rfl) ?_
            refine xrd (va_runV (As := []) (rest := [.int (nI (2 * i))]) hF (c_X3_everyChair l D cI cS ad fa n fo ki st we lo ra rch q0 q1 q2 q3 fk fc rd rc rv sh sle sla bg hd tr (by first | assumption | omega)) (cwV 0 hts gX3_wards_X3_everyChair rfl rfl rfl hV_X3_everyChair ⟨Nat.le_of_ble_eq_true rfl, Nat.le_of_ble_eq_true rfl⟩) (PR.preV hG hP (ci := 3) rfl rfl) rfl rfl hl.1 rfl (lv_room (Nat.le_of_ble_eq_true rfl)) dX3_wards_52 ⟨Nat.le_refl _, Nat.le_refl _⟩) ?_
            refine lv_icmp_gt (tgt := 149) hx hb dX3_wards_55 (by decide) (fun c_55 => ?_) (fun c_55 => ?_)
            ·
              replace c_55 := (nI_ltI (a := 2 ^ n - 1) (b := 2 * i) (by omega) (by omega)).mp c_55
              have hin : 2 ^ (n - 1) = i := by omega
              subst hin
              refine lv_iload_n hx hb dX3_wards_149 rfl (lv_at hl 2 rfl) ?_
              refine lv_if_lt (tgt := 158) hx hb dX3_wards_150 (by decide) (fun c_150 => ?_) (fun c_150 => ?_)
              ·
                replace c_150 : (optI (moO (winM n fo ki st we lo) nn (2 ^ (n - 1)))).toInt < 0 := (i32_ltc (b := 0) (by omega)).mp c_150
                have hmo := optI_lt (fun b hb => by obtain ⟨jb, h1, h2, h3⟩ := mo_ev hb; omega) c_150
                have hnq : n < nn := wd_none (by omega) (by omega) (by omega) (by omega) hmo
                refine lv_bipush (v := (-9)) hx hb dX3_wards_158 (by decide) ?_
                refine lv_goto (tgt := 177) hx hb dX3_wards_160 (by decide) ?_
                exact xretR hx hb hr hlk dX3_wards_177 (by simp [A_wards, c_4, hn0, c_19, hclnn, c_33, c_55, c_150, hnq])
              ·
                replace c_150 : ¬ (optI (moO (winM n fo ki st we lo) nn (2 ^ (n - 1)))).toInt < 0 := (not_congr (i32_ltc (b := 0) (by omega))).mp c_150
                obtain ⟨b, hb9⟩ := optI_ge c_150
                obtain ⟨hq1, hq2, hq3, hq4, hq5⟩ := wd_some (by omega) (by omega) hb9
                have hb256 : b < 256 := by omega
                refine lv_iload_n hx hb dX3_wards_153 rfl (lv_at hl 5 rfl) ?_
                refine lv_iload_n hx hb dX3_wards_154 rfl (lv_at hl 4 rfl) ?_
                refine lv_icmp_lt (tgt := 163) hx hb dX3_wards_155 (by decide) (fun c_155 => ?_) (fun c_155 => ?_)
                ·
                  replace c_155 : v.toInt < ((nn : Nat) : Int) := (i32_ltc (b := nn) (by omega)).mp c_155
                  have hkv : ¬ (nn : Int) ≤ v.toInt := by omega
                  refine lv_iload_n hx hb dX3_wards_163 rfl (lv_at hl 5 rfl) ?_
                  refine lv_if_ge (tgt := 172) hx hb dX3_wards_164 (by decide) (fun c_164 => ?_) (fun c_164 => ?_)
                  ·
                    replace c_164 : 0 ≤ v.toInt := (i32_gec (b := 0) (by omega)).mp c_164
                    have hv0 : ¬ v.toInt < 0 := by omega
                    obtain ⟨w, hw7, rfl⟩ : ∃ w : Nat, w < 8 ∧ v = nI w := ⟨v.toInt.toNat, by omega, nI_ofT (by omega)⟩
                    have hclw := cl8 (j := w) (by omega)
                    have hwt : (nI w).toInt = (w : Int) := nI_toInt (by omega)
                    refine lv_iload_n hx hb dX3_wards_172 rfl (lv_at hl 2 rfl) ?_
                    refine xtop (x' := nI b) (by rw [hb9]; rfl) ?_
                    refine lv_iload_n hx hb dX3_wards_173 rfl (lv_at hl 5 rfl) ?_
                    refine xrd (va_runS (As := [.int (nI b), .int (nI w)]) (rest := []) hF (c_X3_beginOf l D cI cS b w (by first | assumption | omega) (by exact hq4) (by omega)) (va_cwS 2 hts gX3_wards_X3_beginOf rfl rfl rfl hD_X3_beginOf ⟨Nat.le_of_ble_eq_true rfl, Nat.le_of_ble_eq_true rfl⟩) (PR.pre hG (hP.sub (ws' := []) [] rfl)) rfl rfl hl.1 rfl (lv_room (Nat.le_of_ble_eq_true rfl)) dX3_wards_174 ⟨Nat.le_refl _, Nat.le_refl _⟩) ?_
                    exact xretR hx hb hr hlk dX3_wards_177 (by have e9 := bg_fow2 (n := n) (b := b) (k := w) (by omega) (by omega) hq4 hq5 (by omega); simp [A_wards, c_4, hn0, c_19, hclnn, c_33, c_55, c_150, hq1, hq2, c_155, hkv, c_164, hv0, hclw, e9, optI])
                  ·
                    replace c_164 : ¬ 0 ≤ v.toInt := (not_congr (i32_gec (b := 0) (by omega))).mp c_164
                    have hv0 : v.toInt < 0 := by omega
                    refine lv_iload hx hb dX3_wards_167 (lv_at hl 1 rfl) ?_
                    refine xtop (x' := nI (winM n fo ki st we lo b)) (by rw [hb9]; rfl) ?_
                    refine lv_goto (tgt := 177) hx hb dX3_wards_169 (by decide) ?_
                    exact xretR hx hb hr hlk dX3_wards_177 (by simp [A_wards, winM, c_4, hn0, c_19, hclnn, c_33, c_55, c_150, hq1, hq2, c_155, hkv, c_164, hv0])
                ·
                  replace c_155 : ¬ v.toInt < ((nn : Nat) : Int) := (not_congr (i32_ltc (b := nn) (by omega))).mp c_155
                  have hkv : (nn : Int) ≤ v.toInt := by omega
                  refine lv_bipush (v := (-9)) hx hb dX3_wards_158 (by decide) ?_
                  refine lv_goto (tgt := 177) hx hb dX3_wards_160 (by decide) ?_
                  exact xretR hx hb hr hlk dX3_wards_177 (by simp [A_wards, c_4, hn0, c_19, hclnn, c_33, c_55, c_150, hq1, hq2, c_155, hkv])
            ·
              replace c_55 := (not_congr (nI_ltI (a := 2 ^ n - 1) (b := 2 * i) (by omega) (by omega))).mp c_55
              refine lv_iload hx hb dX3_wards_58 (lv_at hl 0 rfl) ?_
              refine xrd (va_runS (As := [.int (nI (2 * i))]) (rest := []) hF (c_X3_bits l D cI cS (2 * i) (by first | assumption | omega)) (va_cwS 1 hts gX3_wards_X3_bits rfl rfl rfl hD_X3_bits ⟨Nat.le_of_ble_eq_true rfl, Nat.le_of_ble_eq_true rfl⟩) (PR.pre hG (hP.sub (ws' := []) [] rfl)) rfl rfl hl.1 rfl (lv_room (Nat.le_of_ble_eq_true rfl)) dX3_wards_60 ⟨Nat.le_refl _, Nat.le_refl _⟩) ?_
              refine lv_iload_n hx hb dX3_wards_63 rfl (lv_at hl 4 rfl) ?_
              refine lv_iconst (v := nI 1) hx hb dX3_wards_64 (by decide) ?_
              refine xsubN (x := nn) (y := 1) hx hb (by omega) dX3_wards_65 ?_
              refine lv_icmp_ne (tgt := 78) hx hb dX3_wards_66 (by decide) (fun c_66 => ?_) (fun c_66 => ?_)
              ·
                replace c_66 := (not_congr (nI_eq (a := popN (2 * i)) (b := nn - 1) (by omega) (by omega))).mp c_66
                refine lv_bipush (v := (-9)) hx hb dX3_wards_78 (by decide) ?_
                refine lv_istore (lv' := [(6, .int (-9)), (5, .int (nI (2 * i))), (4, .int (optM (winM n fo ki st we lo) (moO (winM n fo ki st we lo) nn i))), (3, .int (optI (moO (winM n fo ki st we lo) nn i))), (0, .ref (ad 0)), (1, .int (nI nn)), (2, .int v)]) hx hb dX3_wards_80 hl (by decide) rfl (fun ls hl => ?_)
                refine lv_iload hx hb dX3_wards_82 (lv_at hl 0 rfl) ?_
                refine lv_iload hx hb dX3_wards_84 (lv_at hl 2 rfl) ?_
                refine lv_icmp_gt (tgt := 110) hx hb dX3_wards_86 (by decide) (fun c_86 => ?_) (fun c_86 => ?_)
                ·
                  replace c_86 : (optM (winM n fo ki st we lo) (moO (winM n fo ki st we lo) nn i)).toInt < (-9) := (i32_lt).mp c_86
                  exact (mo_nz (winM_lt hwe hn) c_86).elim
                ·
                  replace c_86 : ¬ (optM (winM n fo ki st we lo) (moO (winM n fo ki st we lo) nn i)).toInt < (-9) := (not_congr (i32_lt)).mp c_86
                  refine lv_iload hx hb dX3_wards_89 (lv_at hl 0 rfl) ?_
                  refine lv_iload hx hb dX3_wards_91 (lv_at hl 2 rfl) ?_
                  refine lv_icmp_ne (tgt := 114) hx hb dX3_wards_93 (by decide) (fun c_93 => ?_) (fun c_93 => ?_)
                  ·
                    refine lv_iconst (v := nI 0) hx hb dX3_wards_114 (by decide) ?_
                    refine lv_istore (lv' := [(7, .int (nI 0)), (6, .int (-9)), (5, .int (nI (2 * i))), (4, .int (optM (winM n fo ki st we lo) (moO (winM n fo ki st we lo) nn i))), (3, .int (optI (moO (winM n fo ki st we lo) nn i))), (0, .ref (ad 0)), (1, .int (nI nn)), (2, .int v)]) hx hb dX3_wards_115 hl (by decide) rfl (fun ls hl => ?_)
                    refine lv_iload hx hb dX3_wards_117 (lv_at hl 0 rfl) ?_
                    refine lv_if_eq (tgt := 127) hx hb dX3_wards_119 (by decide) (fun c_119 => ?_) (fun c_119 => ?_)
                    ·
                      refine lv_iload_n hx hb dX3_wards_127 rfl (lv_at hl 4 rfl) ?_
                      refine lv_istore_n (lv' := [(3, .int (optI (moO (winM n fo ki st we lo) nn i))), (7, .int (nI 0)), (6, .int (-9)), (5, .int (nI (2 * i))), (4, .int (optM (winM n fo ki st we lo) (moO (winM n fo ki st we lo) nn i))), (0, .ref (ad 0)), (1, .int (nI nn)), (2, .int v)]) hx hb dX3_wards_128 rfl hl (by decide) rfl (fun ls hl => ?_)
                      refine lv_iload hx hb dX3_wards_129 (lv_at hl 1 rfl) ?_
                      refine lv_if_eq (tgt := 139) hx hb dX3_wards_131 (by decide) (fun c_131 => ?_) (fun c_131 => ?_)
                      ·
                        refine lv_iload hx hb dX3_wards_139 (lv_at hl 4 rfl) ?_
                        refine lv_istore (lv' := [(4, .int (optM (winM n fo ki st we lo) (moO (winM n fo ki st we lo) nn i))), (3, .int (optI (moO (winM n fo ki st we lo) nn i))), (7, .int (nI 0)), (6, .int (-9)), (5, .int (nI (2 * i))), (0, .ref (ad 0)), (1, .int (nI nn)), (2, .int v)]) hx hb dX3_wards_141 hl (by decide) rfl (fun ls hl => ?_)
                        refine lv_iinc (v := nI (2 * i + 2)) (lv' := [(5, .int (nI (2 * i + 2))), (4, .int (optM (winM n fo ki st we lo) (moO (winM n fo ki st we lo) nn i))), (3, .int (optI (moO (winM n fo ki st we lo) nn i))), (7, .int (nI 0)), (6, .int (-9)), (0, .ref (ad 0)), (1, .int (nI nn)), (2, .int v)]) hx hb dX3_wards_143 hl (k := 4) rfl xinc2 (by decide) rfl (fun ls hl => ?_)
                        refine lv_goto (tgt := 49) hx hb dX3_wards_146 (by decide) ?_
                        exact ih (i + 1) (nI (2 * i + 2)) (optM (winM n fo ki st we lo) (moO (winM n fo ki st we lo) nn i)) (optI (moO (winM n fo ki st we lo) nn i)) (by exact congrArg nI (by omega)) (by rw [mo_n (W := winM n fo ki st we lo) (by omega)]) (by rw [mo_n (W := winM n fo ki st we lo) (by omega)]) (by omega) (by omega) ls (lv_sub hl [0, 1, 2, 5, 6, 7] rfl)
                      · exact absurd (by decide) c_131
                    · exact absurd (by decide) c_119
                  ·
                    refine lv_iload hx hb dX3_wards_96 (lv_at hl 0 rfl) ?_
                    refine lv_if_lt (tgt := 114) hx hb dX3_wards_98 (by decide) (fun c_98 => ?_) (fun c_98 => ?_)
                    ·
                      refine lv_iconst (v := nI 0) hx hb dX3_wards_114 (by decide) ?_
                      refine lv_istore (lv' := [(7, .int (nI 0)), (6, .int (-9)), (5, .int (nI (2 * i))), (4, .int (optM (winM n fo ki st we lo) (moO (winM n fo ki st we lo) nn i))), (3, .int (optI (moO (winM n fo ki st we lo) nn i))), (0, .ref (ad 0)), (1, .int (nI nn)), (2, .int v)]) hx hb dX3_wards_115 hl (by decide) rfl (fun ls hl => ?_)
                      refine lv_iload hx hb dX3_wards_117 (lv_at hl 0 rfl) ?_
                      refine lv_if_eq (tgt := 127) hx hb dX3_wards_119 (by decide) (fun c_119 => ?_) (fun c_119 => ?_)
                      ·
                        refine lv_iload_n hx hb dX3_wards_127 rfl (lv_at hl 4 rfl) ?_
                        refine lv_istore_n (lv' := [(3, .int (optI (moO (winM n fo ki st we lo) nn i))), (7, .int (nI 0)), (6, .int (-9)), (5, .int (nI (2 * i))), (4, .int (optM (winM n fo ki st we lo) (moO (winM n fo ki st we lo) nn i))), (0, .ref (ad 0)), (1, .int (nI nn)), (2, .int v)]) hx hb dX3_wards_128 rfl hl (by decide) rfl (fun ls hl => ?_)
                        refine lv_iload hx hb dX3_wards_129 (lv_at hl 1 rfl) ?_
                        refine lv_if_eq (tgt := 139) hx hb dX3_wards_131 (by decide) (fun c_131 => ?_) (fun c_131 => ?_)
                        ·
                          refine lv_iload hx hb dX3_wards_139 (lv_at hl 4 rfl) ?_
                          refine lv_istore (lv' := [(4, .int (optM (winM n fo ki st we lo) (moO (winM n fo ki st we lo) nn i))), (3, .int (optI (moO (winM n fo ki st we lo) nn i))), (7, .int (nI 0)), (6, .int (-9)), (5, .int (nI (2 * i))), (0, .ref (ad 0)), (1, .int (nI nn)), (2, .int v)]) hx hb dX3_wards_141 hl (by decide) rfl (fun ls hl => ?_)
                          refine lv_iinc (v := nI (2 * i + 2)) (lv' := [(5, .int (nI (2 * i + 2))), (4, .int (optM (winM n fo ki st we lo) (moO (winM n fo ki st we lo) nn i))), (3, .int (optI (moO (winM n fo ki st we lo) nn i))), (7, .int (nI 0)), (6, .int (-9)), (0, .ref (ad 0)), (1, .int (nI nn)), (2, .int v)]) hx hb dX3_wards_143 hl (k := 4) rfl xinc2 (by decide) rfl (fun ls hl => ?_)
                          refine lv_goto (tgt := 49) hx hb dX3_wards_146 (by decide) ?_
                          exact ih (i + 1) (nI (2 * i + 2)) (optM (winM n fo ki st we lo) (moO (winM n fo ki st we lo) nn i)) (optI (moO (winM n fo ki st we lo) nn i)) (by exact congrArg nI (by omega)) (by rw [mo_n (W := winM n fo ki st we lo) (by omega)]) (by rw [mo_n (W := winM n fo ki st we lo) (by omega)]) (by omega) (by omega) ls (lv_sub hl [0, 1, 2, 5, 6, 7] rfl)
                        · exact absurd (by decide) c_131
                      · exact absurd (by decide) c_119
                    · exact absurd (by decide) c_98
              ·
                replace c_66 := (nI_eq (a := popN (2 * i)) (b := nn - 1) (by omega) (by omega)).mp c_66
                refine lv_aload_n hx hb dX3_wards_69 rfl (lv_at hl 3 rfl) ?_
                refine lv_iload hx hb dX3_wards_70 (lv_at hl 0 rfl) ?_
                refine xrd (va_runV (As := [.int (nI (2 * i))]) (rest := []) hF (c_X3_wonBy l D cI cS ad fa n fo ki st we lo ra rch q0 q1 q2 q3 fk fc rd rc rv sh sle sla bg hd tr (2 * i) (by first | assumption | omega) (by first | assumption | omega) (by first | assumption | omega) (by first | assumption | omega) (by first | assumption | omega) (by first | assumption | omega) (by omega) (by first | assumption | omega)) (cwV 1 hts gX3_wards_X3_wonBy rfl rfl rfl hV_X3_wonBy ⟨Nat.le_of_ble_eq_true rfl, Nat.le_of_ble_eq_true rfl⟩) (PR.preV hG hP (ci := 3) rfl rfl) rfl rfl hl.1 rfl (lv_room (Nat.le_of_ble_eq_true rfl)) dX3_wards_72 ⟨Nat.le_refl _, Nat.le_refl _⟩) ?_
                refine lv_goto (tgt := 80) hx hb dX3_wards_75 (by decide) ?_
                refine lv_istore (lv' := [(6, .int (nI (winM n fo ki st we lo (2 * i)))), (5, .int (nI (2 * i))), (4, .int (optM (winM n fo ki st we lo) (moO (winM n fo ki st we lo) nn i))), (3, .int (optI (moO (winM n fo ki st we lo) nn i))), (0, .ref (ad 0)), (1, .int (nI nn)), (2, .int v)]) hx hb dX3_wards_80 hl (by decide) rfl (fun ls hl => ?_)
                refine lv_iload hx hb dX3_wards_82 (lv_at hl 0 rfl) ?_
                refine lv_iload hx hb dX3_wards_84 (lv_at hl 2 rfl) ?_
                refine lv_icmp_gt (tgt := 110) hx hb dX3_wards_86 (by decide) (fun c_86 => ?_) (fun c_86 => ?_)
                ·
                  replace c_86 : (optM (winM n fo ki st we lo) (moO (winM n fo ki st we lo) nn i)).toInt < ((winM n fo ki st we lo (2 * i) : Nat) : Int) := (i32_ltc (b := winM n fo ki st we lo (2 * i)) (by omega)).mp c_86
                  refine lv_iconst (v := nI 1) hx hb dX3_wards_110 (by decide) ?_
                  refine lv_goto (tgt := 115) hx hb dX3_wards_111 (by decide) ?_
                  refine lv_istore (lv' := [(7, .int (nI 1)), (6, .int (nI (winM n fo ki st we lo (2 * i)))), (5, .int (nI (2 * i))), (4, .int (optM (winM n fo ki st we lo) (moO (winM n fo ki st we lo) nn i))), (3, .int (optI (moO (winM n fo ki st we lo) nn i))), (0, .ref (ad 0)), (1, .int (nI nn)), (2, .int v)]) hx hb dX3_wards_115 hl (by decide) rfl (fun ls hl => ?_)
                  refine lv_iload hx hb dX3_wards_117 (lv_at hl 0 rfl) ?_
                  refine lv_if_eq (tgt := 127) hx hb dX3_wards_119 (by decide) (fun c_119 => ?_) (fun c_119 => ?_)
                  · exact absurd c_119 (by decide)
                  ·
                    refine lv_iload hx hb dX3_wards_122 (lv_at hl 2 rfl) ?_
                    refine lv_goto (tgt := 128) hx hb dX3_wards_124 (by decide) ?_
                    refine lv_istore_n (lv' := [(3, .int (nI (2 * i))), (7, .int (nI 1)), (6, .int (nI (winM n fo ki st we lo (2 * i)))), (5, .int (nI (2 * i))), (4, .int (optM (winM n fo ki st we lo) (moO (winM n fo ki st we lo) nn i))), (0, .ref (ad 0)), (1, .int (nI nn)), (2, .int v)]) hx hb dX3_wards_128 rfl hl (by decide) rfl (fun ls hl => ?_)
                    refine lv_iload hx hb dX3_wards_129 (lv_at hl 1 rfl) ?_
                    refine lv_if_eq (tgt := 139) hx hb dX3_wards_131 (by decide) (fun c_131 => ?_) (fun c_131 => ?_)
                    · exact absurd c_131 (by decide)
                    ·
                      refine lv_iload hx hb dX3_wards_134 (lv_at hl 2 rfl) ?_
                      refine lv_goto (tgt := 141) hx hb dX3_wards_136 (by decide) ?_
                      refine lv_istore (lv' := [(4, .int (nI (winM n fo ki st we lo (2 * i)))), (3, .int (nI (2 * i))), (7, .int (nI 1)), (6, .int (nI (winM n fo ki st we lo (2 * i)))), (5, .int (nI (2 * i))), (0, .ref (ad 0)), (1, .int (nI nn)), (2, .int v)]) hx hb dX3_wards_141 hl (by decide) rfl (fun ls hl => ?_)
                      refine lv_iinc (v := nI (2 * i + 2)) (lv' := [(5, .int (nI (2 * i + 2))), (4, .int (nI (winM n fo ki st we lo (2 * i)))), (3, .int (nI (2 * i))), (7, .int (nI 1)), (6, .int (nI (winM n fo ki st we lo (2 * i)))), (0, .ref (ad 0)), (1, .int (nI nn)), (2, .int v)]) hx hb dX3_wards_143 hl (k := 4) rfl xinc2 (by decide) rfl (fun ls hl => ?_)
                      refine lv_goto (tgt := 49) hx hb dX3_wards_146 (by decide) ?_
                      exact ih (i + 1) (nI (2 * i + 2)) (nI (winM n fo ki st we lo (2 * i))) (nI (2 * i)) (by exact congrArg nI (by omega)) (by rw [mo_gt (winM_lt hwe hn) (by omega) c_86]; rfl) (by rw [mo_gt (winM_lt hwe hn) (by omega) c_86]; rfl) (by omega) (by omega) ls (lv_sub hl [0, 1, 2, 5, 6, 7] rfl)
                ·
                  replace c_86 : ¬ (optM (winM n fo ki st we lo) (moO (winM n fo ki st we lo) nn i)).toInt < ((winM n fo ki st we lo (2 * i) : Nat) : Int) := (not_congr (i32_ltc (b := winM n fo ki st we lo (2 * i)) (by omega))).mp c_86
                  refine lv_iload hx hb dX3_wards_89 (lv_at hl 0 rfl) ?_
                  refine lv_iload hx hb dX3_wards_91 (lv_at hl 2 rfl) ?_
                  refine lv_icmp_ne (tgt := 114) hx hb dX3_wards_93 (by decide) (fun c_93 => ?_) (fun c_93 => ?_)
                  ·
                    refine lv_iconst (v := nI 0) hx hb dX3_wards_114 (by decide) ?_
                    refine lv_istore (lv' := [(7, .int (nI 0)), (6, .int (nI (winM n fo ki st we lo (2 * i)))), (5, .int (nI (2 * i))), (4, .int (optM (winM n fo ki st we lo) (moO (winM n fo ki st we lo) nn i))), (3, .int (optI (moO (winM n fo ki st we lo) nn i))), (0, .ref (ad 0)), (1, .int (nI nn)), (2, .int v)]) hx hb dX3_wards_115 hl (by decide) rfl (fun ls hl => ?_)
                    refine lv_iload hx hb dX3_wards_117 (lv_at hl 0 rfl) ?_
                    refine lv_if_eq (tgt := 127) hx hb dX3_wards_119 (by decide) (fun c_119 => ?_) (fun c_119 => ?_)
                    ·
                      refine lv_iload_n hx hb dX3_wards_127 rfl (lv_at hl 4 rfl) ?_
                      refine lv_istore_n (lv' := [(3, .int (optI (moO (winM n fo ki st we lo) nn i))), (7, .int (nI 0)), (6, .int (nI (winM n fo ki st we lo (2 * i)))), (5, .int (nI (2 * i))), (4, .int (optM (winM n fo ki st we lo) (moO (winM n fo ki st we lo) nn i))), (0, .ref (ad 0)), (1, .int (nI nn)), (2, .int v)]) hx hb dX3_wards_128 rfl hl (by decide) rfl (fun ls hl => ?_)
                      refine lv_iload hx hb dX3_wards_129 (lv_at hl 1 rfl) ?_
                      refine lv_if_eq (tgt := 139) hx hb dX3_wards_131 (by decide) (fun c_131 => ?_) (fun c_131 => ?_)
                      ·
                        refine lv_iload hx hb dX3_wards_139 (lv_at hl 4 rfl) ?_
                        refine lv_istore (lv' := [(4, .int (optM (winM n fo ki st we lo) (moO (winM n fo ki st we lo) nn i))), (3, .int (optI (moO (winM n fo ki st we lo) nn i))), (7, .int (nI 0)), (6, .int (nI (winM n fo ki st we lo (2 * i)))), (5, .int (nI (2 * i))), (0, .ref (ad 0)), (1, .int (nI nn)), (2, .int v)]) hx hb dX3_wards_141 hl (by decide) rfl (fun ls hl => ?_)
                        refine lv_iinc (v := nI (2 * i + 2)) (lv' := [(5, .int (nI (2 * i + 2))), (4, .int (optM (winM n fo ki st we lo) (moO (winM n fo ki st we lo) nn i))), (3, .int (optI (moO (winM n fo ki st we lo) nn i))), (7, .int (nI 0)), (6, .int (nI (winM n fo ki st we lo (2 * i)))), (0, .ref (ad 0)), (1, .int (nI nn)), (2, .int v)]) hx hb dX3_wards_143 hl (k := 4) rfl xinc2 (by decide) rfl (fun ls hl => ?_)
                        refine lv_goto (tgt := 49) hx hb dX3_wards_146 (by decide) ?_
                        exact ih (i + 1) (nI (2 * i + 2)) (optM (winM n fo ki st we lo) (moO (winM n fo ki st we lo) nn i)) (optI (moO (winM n fo ki st we lo) nn i)) (by exact congrArg nI (by omega)) (by rw [mo_le (winM_lt hwe hn) c_86 c_93]) (by rw [mo_le (winM_lt hwe hn) c_86 c_93]) (by omega) (by omega) ls (lv_sub hl [0, 1, 2, 5, 6, 7] rfl)
                      · exact absurd (by decide) c_131
                    · exact absurd (by decide) c_119
                  ·
                    refine lv_iload hx hb dX3_wards_96 (lv_at hl 0 rfl) ?_
                    refine lv_if_lt (tgt := 114) hx hb dX3_wards_98 (by decide) (fun c_98 => ?_) (fun c_98 => ?_)
                    · exact absurd c_98 (nI_nn (by omega))
                    ·
                      obtain ⟨b, hb9, hw9⟩ := mo_some (winM_lt hwe hn) c_93
                      obtain ⟨jb, hjb, hbj, -⟩ := mo_ev hb9
                      have hb256 : b < 256 := by omega
                      refine lv_iload hx hb dX3_wards_101 (lv_at hl 1 rfl) ?_
                      refine lv_iload_n hx hb dX3_wards_103 rfl (lv_at hl 3 rfl) ?_
                      refine xtop (x' := nI b) (by rw [hb9]; rfl) ?_
                      refine xrd (va_runS (As := [.int (nI (2 * i)), .int (nI b)]) (rest := []) hF (c_X3_isAhead l D cI cS (2 * i) b (by first | assumption | omega) (by first | assumption | omega)) (va_cwS 2 hts gX3_wards_X3_isAhead rfl rfl rfl hD_X3_isAhead ⟨Nat.le_of_ble_eq_true rfl, Nat.le_of_ble_eq_true rfl⟩) (PR.pre hG (hP.sub (ws' := []) [] rfl)) rfl rfl hl.1 rfl (lv_room (Nat.le_of_ble_eq_true rfl)) dX3_wards_104 ⟨Nat.le_refl _, Nat.le_refl _⟩) ?_
                      refine lv_if_eq (tgt := 114) hx hb dX3_wards_107 (by decide) (fun c_107 => ?_) (fun c_107 => ?_)
                      ·
                        replace c_107 := bI_0.mp c_107
                        refine lv_iconst (v := nI 0) hx hb dX3_wards_114 (by decide) ?_
                        refine lv_istore (lv' := [(7, .int (nI 0)), (6, .int (nI (winM n fo ki st we lo (2 * i)))), (5, .int (nI (2 * i))), (4, .int (optM (winM n fo ki st we lo) (moO (winM n fo ki st we lo) nn i))), (3, .int (optI (moO (winM n fo ki st we lo) nn i))), (0, .ref (ad 0)), (1, .int (nI nn)), (2, .int v)]) hx hb dX3_wards_115 hl (by decide) rfl (fun ls hl => ?_)
                        refine lv_iload hx hb dX3_wards_117 (lv_at hl 0 rfl) ?_
                        refine lv_if_eq (tgt := 127) hx hb dX3_wards_119 (by decide) (fun c_119 => ?_) (fun c_119 => ?_)
                        ·
                          refine lv_iload_n hx hb dX3_wards_127 rfl (lv_at hl 4 rfl) ?_
                          refine lv_istore_n (lv' := [(3, .int (optI (moO (winM n fo ki st we lo) nn i))), (7, .int (nI 0)), (6, .int (nI (winM n fo ki st we lo (2 * i)))), (5, .int (nI (2 * i))), (4, .int (optM (winM n fo ki st we lo) (moO (winM n fo ki st we lo) nn i))), (0, .ref (ad 0)), (1, .int (nI nn)), (2, .int v)]) hx hb dX3_wards_128 rfl hl (by decide) rfl (fun ls hl => ?_)
                          refine lv_iload hx hb dX3_wards_129 (lv_at hl 1 rfl) ?_
                          refine lv_if_eq (tgt := 139) hx hb dX3_wards_131 (by decide) (fun c_131 => ?_) (fun c_131 => ?_)
                          ·
                            refine lv_iload hx hb dX3_wards_139 (lv_at hl 4 rfl) ?_
                            refine lv_istore (lv' := [(4, .int (optM (winM n fo ki st we lo) (moO (winM n fo ki st we lo) nn i))), (3, .int (optI (moO (winM n fo ki st we lo) nn i))), (7, .int (nI 0)), (6, .int (nI (winM n fo ki st we lo (2 * i)))), (5, .int (nI (2 * i))), (0, .ref (ad 0)), (1, .int (nI nn)), (2, .int v)]) hx hb dX3_wards_141 hl (by decide) rfl (fun ls hl => ?_)
                            refine lv_iinc (v := nI (2 * i + 2)) (lv' := [(5, .int (nI (2 * i + 2))), (4, .int (optM (winM n fo ki st we lo) (moO (winM n fo ki st we lo) nn i))), (3, .int (optI (moO (winM n fo ki st we lo) nn i))), (7, .int (nI 0)), (6, .int (nI (winM n fo ki st we lo (2 * i)))), (0, .ref (ad 0)), (1, .int (nI nn)), (2, .int v)]) hx hb dX3_wards_143 hl (k := 4) rfl xinc2 (by decide) rfl (fun ls hl => ?_)
                            refine lv_goto (tgt := 49) hx hb dX3_wards_146 (by decide) ?_
                            exact ih (i + 1) (nI (2 * i + 2)) (optM (winM n fo ki st we lo) (moO (winM n fo ki st we lo) nn i)) (optI (moO (winM n fo ki st we lo) nn i)) (by exact congrArg nI (by omega)) (by rw [mo_eqn hb9 hw9 c_107]) (by rw [mo_eqn hb9 hw9 c_107]) (by omega) (by omega) ls (lv_sub hl [0, 1, 2, 5, 6, 7] rfl)
                          · exact absurd (by decide) c_131
                        · exact absurd (by decide) c_119
                      ·
                        replace c_107 := bI_n0.mp c_107
                        refine lv_iconst (v := nI 1) hx hb dX3_wards_110 (by decide) ?_
                        refine lv_goto (tgt := 115) hx hb dX3_wards_111 (by decide) ?_
                        refine lv_istore (lv' := [(7, .int (nI 1)), (6, .int (nI (winM n fo ki st we lo (2 * i)))), (5, .int (nI (2 * i))), (4, .int (optM (winM n fo ki st we lo) (moO (winM n fo ki st we lo) nn i))), (3, .int (optI (moO (winM n fo ki st we lo) nn i))), (0, .ref (ad 0)), (1, .int (nI nn)), (2, .int v)]) hx hb dX3_wards_115 hl (by decide) rfl (fun ls hl => ?_)
                        refine lv_iload hx hb dX3_wards_117 (lv_at hl 0 rfl) ?_
                        refine lv_if_eq (tgt := 127) hx hb dX3_wards_119 (by decide) (fun c_119 => ?_) (fun c_119 => ?_)
                        · exact absurd c_119 (by decide)
                        ·
                          refine lv_iload hx hb dX3_wards_122 (lv_at hl 2 rfl) ?_
                          refine lv_goto (tgt := 128) hx hb dX3_wards_124 (by decide) ?_
                          refine lv_istore_n (lv' := [(3, .int (nI (2 * i))), (7, .int (nI 1)), (6, .int (nI (winM n fo ki st we lo (2 * i)))), (5, .int (nI (2 * i))), (4, .int (optM (winM n fo ki st we lo) (moO (winM n fo ki st we lo) nn i))), (0, .ref (ad 0)), (1, .int (nI nn)), (2, .int v)]) hx hb dX3_wards_128 rfl hl (by decide) rfl (fun ls hl => ?_)
                          refine lv_iload hx hb dX3_wards_129 (lv_at hl 1 rfl) ?_
                          refine lv_if_eq (tgt := 139) hx hb dX3_wards_131 (by decide) (fun c_131 => ?_) (fun c_131 => ?_)
                          · exact absurd c_131 (by decide)
                          ·
                            refine lv_iload hx hb dX3_wards_134 (lv_at hl 2 rfl) ?_
                            refine lv_goto (tgt := 141) hx hb dX3_wards_136 (by decide) ?_
                            refine lv_istore (lv' := [(4, .int (nI (winM n fo ki st we lo (2 * i)))), (3, .int (nI (2 * i))), (7, .int (nI 1)), (6, .int (nI (winM n fo ki st we lo (2 * i)))), (5, .int (nI (2 * i))), (0, .ref (ad 0)), (1, .int (nI nn)), (2, .int v)]) hx hb dX3_wards_141 hl (by decide) rfl (fun ls hl => ?_)
                            refine lv_iinc (v := nI (2 * i + 2)) (lv' := [(5, .int (nI (2 * i + 2))), (4, .int (nI (winM n fo ki st we lo (2 * i)))), (3, .int (nI (2 * i))), (7, .int (nI 1)), (6, .int (nI (winM n fo ki st we lo (2 * i)))), (0, .ref (ad 0)), (1, .int (nI nn)), (2, .int v)]) hx hb dX3_wards_143 hl (k := 4) rfl xinc2 (by decide) rfl (fun ls hl => ?_)
                            refine lv_goto (tgt := 49) hx hb dX3_wards_146 (by decide) ?_
                            exact ih (i + 1) (nI (2 * i + 2)) (nI (winM n fo ki st we lo (2 * i))) (nI (2 * i)) (by exact congrArg nI (by omega)) (by rw [mo_eqy hb9 hw9 (by omega) c_107]; rfl) (by rw [mo_eqy hb9 hw9 (by omega) c_107]; rfl) (by omega) (by omega) ls (lv_sub hl [0, 1, 2, 5, 6, 7] rfl)
        exact K49 _ 0 (nI 0) (-9) (-9) (by first | rfl | exact Nat.zero_le _) (by first | rfl | exact Nat.zero_le _) (by first | rfl | exact Nat.zero_le _) (by first | rfl | exact Nat.zero_le _) (Nat.lt_succ_self _) ls (lv_sub hl [0, 1, 2, 3, 4, 5] rfl)
      ·
        replace c_33 := bI_0.mp c_33
        refine lv_bipush (v := (-2)) hx hb dX3_wards_36 (by decide) ?_
        exact xretR hx hb hr hlk dX3_wards_38 (by simp [A_wards, c_4, hn0, c_19, hclnn, c_33])
  ·
    replace c_4 := (nI_eq (a := n) (b := 0) (by omega) (by omega)).mp c_4
    have hn0 : n = 0 := by omega
    refine lv_bipush (v := (-3)) hx hb dX3_wards_7 (by decide) ?_
    exact xretR hx hb hr hlk dX3_wards_9 (by simp [A_wards, c_4, hn0])

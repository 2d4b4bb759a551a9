/-! ===== the law ===== -/
def LwA (s : State) : Nat → Prop := fun q => s.heap.size ≤ q
def LwC (D : va_G) (cI cS : ClassId) (s : State) (adx adm : Nat → Nat) : Prop := Gk D cI cS s ∧ nd (adX adx) ∧ nd (adM adm) ∧ (∀ q, AW (adX adx) q → ¬ AW (adM adm) q) ∧ (∀ q, AW (adX adx) q → LwA s q) ∧ (∀ q, AW (adM adm) q → LwA s q)
def LwS (D : va_G) (cI cS : ClassId) (adx adm : Nat → Nat) (H : Heap) : Prop := ∃ (n : Nat) (fo : Nat) (ki : Nat → Nat) (st : Nat → Nat) (we : Nat → Nat) (lo : Nat → Nat) (rd : Nat) (rc : Nat → Nat) (rv : Nat → Nat) (sh : Nat → Bool) (sla : Nat → Nat) (sle : Nat → Nat) (bg : Nat → Int32) (tr : Int32) (fa : Nat) (n2 : Nat) (go : Nat) (kj : Nat → Nat) (sj : Nat → Nat) (wj : Nat → Nat) (lj : Nat → Nat) (ti : Nat → Int32) (ra : Nat) (rch : Nat) (q0 : Nat → Int32) (q1 : Nat → Int32) (q2 : Nat → Int32) (q3 : Nat → Int32) (fk : Nat) (fc : Nat → Nat) (hd : Nat → Int32),
  stB n fo ki st we lo rd rc rv sla sle ∧ va_P D vwCl (wX cI cS adx sh sla sle (bigF bg) n fo ki st we lo n2 go kj sj wj lj ti rc rv rd tr fa) H ∧ va_P D vwCl (wM cI adm fa n fo ki st we lo ra rch q0 q1 q2 q3 fk fc rd rc rv sh sle sla bg hd tr) H
section LW
variable {p : Program} {l : Launch} {e : Env} {R : Room} {s : State} {m : MethodId} {args : Array Value} {below : List Frame} {meth : Method} {c : Code} {H : Heap} {locs : List Loc} {cells slots : Nat} {Q : State → Prop}
variable {cc : ByteArray} {pc : Nat} {ls : Array Slot} {rest st0 : List Value} {D : va_G} {A : Nat → Prop} {a : Array Value} {H0 : Heap}
theorem keep2 {w2 : va_W} {ad ad2 : List Nat} {H1 : Heap} (hP2 : va_P D vwCl w2 H) (h2 : w2.map Prod.fst = ad2) (hd : ∀ q, AW ad q → ¬ AW ad2 q) (hk : ∀ q : Nat, q < H.size → ¬ AW ad q → H1[q]? = H[q]?) : va_P D vwCl w2 H1 := fun k q hq => (hP2 k q hq).kept (hk q.1 ((hP2 k q hq).lt) (fun z => hd q.1 z (by
  show q.1 ∈ ad2
  rw [← h2]
  exact List.mem_map.mpr ⟨q, List.mem_of_getElem? hq, rfl⟩)))
theorem lawI {S : Type} {post : Int32 → S → Prop} {w1 : S → va_W} {w2 : va_W} {ad ad2 : List Nat} (hr : va_Run p l e R s m args below meth c H locs cells slots 0 0 (F0 m pc ls st0) rest (va_Qi post (fun u t => va_P D vwCl (w1 u) t.heap) (AW ad) a) (AW ad)) (hS : va_S A H0 H locs) (hA : ∀ q, AW ad q → A q) (hP2 : va_P D vwCl w2 H) (h2 : w2.map Prod.fst = ad2) (hd : ∀ q, AW ad q → ¬ AW ad2 q)
    (kk : ∀ (r : Int32) (u : S) (H1 : Heap) (locs1 : List Loc), post r u → va_P D vwCl (w1 u) H1 → va_P D vwCl w2 H1 → va_S A H0 H1 locs1 → W p l e R s m args below meth c H1 locs1 cells slots Q (F0 m (pc + 3) ls (.int r :: rest))) : W p l e R s m args below meth c H locs cells slots Q (F0 m pc ls st0) :=
  va_calli hr hS (fun q _ h => hA q h) hA (fun r u t H1 locs1 ht _ hw hB _ hk hS1 => kk r u H1 locs1 hw (by rw [← ht]; exact hB) (keep2 hP2 h2 hd hk) hS1)
theorem lawL {S : Type} {post : Int64 → S → Prop} {w1 : S → va_W} {w2 : va_W} {ad ad2 : List Nat} (hr : va_Run p l e R s m args below meth c H locs cells slots 0 0 (F0 m pc ls st0) rest (va_Ql post (fun u t => va_P D vwCl (w1 u) t.heap) (AW ad) a) (AW ad)) (hS : va_S A H0 H locs) (hA : ∀ q, AW ad q → A q) (hP2 : va_P D vwCl w2 H) (h2 : w2.map Prod.fst = ad2) (hd : ∀ q, AW ad q → ¬ AW ad2 q)
    (kk : ∀ (r : Int64) (u : S) (H1 : Heap) (locs1 : List Loc), post r u → va_P D vwCl (w1 u) H1 → va_P D vwCl w2 H1 → va_S A H0 H1 locs1 → W p l e R s m args below meth c H1 locs1 cells slots Q (F0 m (pc + 3) ls (.long r :: rest))) : W p l e R s m args below meth c H locs cells slots Q (F0 m pc ls st0) :=
  va_calll hr hS (fun q _ h => hA q h) hA (fun r u t H1 locs1 ht _ hw hB _ hk hS1 => kk r u H1 locs1 hw (by rw [← ht]; exact hB) (keep2 hP2 h2 hd hk) hS1)
theorem xsld (hx : p.tables.exec = Jvm.exec) (hb : c.code = cc) {b L : Nat} {xs : Nat → Int32} (hX : va_X b L xs s H0) (hbl : b < H0.size) (hbA : ¬ A b) (hS : va_S A H0 H locs) {i : Int32} (j : Nat) (e0 : i = nI j) (hj : j < L) (hL : L ≤ 3072) (hdg : decode cc pc = .ok (.iaload, 1))
    (kk : W p l e R s m args below meth c H locs cells slots Q (F0 m (pc + 1) ls (.int (xs j) :: rest))) : W p l e R s m args below meth c H locs cells slots Q (F0 m pc ls (.int i :: .ref b :: rest)) := by
  subst e0
  refine va_sld hx hb hX hbl hbA hS (vp_in_nI hj (by omega)) hdg ?_
  rw [nI_clamp (by omega)]
  exact kk
theorem lw6 {L i : Nat} (hL : L ≤ 3072) (hi : i ≤ L) : (nI L - nI 6 < nI i) ↔ L < i + 6 := by
  have e : nI L - nI 6 = zI ((L : Int) - 6) := by
    apply Int32.toInt_inj.mp
    rw [zI_toInt (by omega) (by omega), Int32.toInt_sub, nI_toInt (by omega), nI_toInt (by decide)]
    exact Int.bmod_eq_of_le (by show -(4294967296 / 2 : Int) ≤ _; omega) (by show _ < ((4294967296 : Int) + 1) / 2; omega)
  rw [e, Int32.lt_iff_toInt_lt, zI_toInt (by omega) (by omega), nI_toInt (by omega)]
  omega
end LW
theorem hL_X2_front : yX2_front.cls = RX2 ∧ yX2_front.cls ≠ "java/lang/invoke/MethodHandle" ∧ yX2_front.cls ≠ "java/lang/invoke/VarHandle" ∧ (parseMethodDescriptor yX2_front.desc).map (fun d => d.parameters.length) = some 4 := by decide +kernel
theorem hL_X3_front : yX3_front.cls = RX3 ∧ yX3_front.cls ≠ "java/lang/invoke/MethodHandle" ∧ yX3_front.cls ≠ "java/lang/invoke/VarHandle" ∧ (parseMethodDescriptor yX3_front.desc).map (fun d => d.parameters.length) = some 4 := by decide +kernel
theorem hL_X2_ofChair : yX2_ofChair.cls = RX2 ∧ yX2_ofChair.cls ≠ "java/lang/invoke/MethodHandle" ∧ yX2_ofChair.cls ≠ "java/lang/invoke/VarHandle" ∧ (parseMethodDescriptor yX2_ofChair.desc).map (fun d => d.parameters.length) = some 2 := by decide +kernel
theorem hL_X3_ofChair : yX3_ofChair.cls = RX3 ∧ yX3_ofChair.cls ≠ "java/lang/invoke/MethodHandle" ∧ yX3_ofChair.cls ≠ "java/lang/invoke/VarHandle" ∧ (parseMethodDescriptor yX3_ofChair.desc).map (fun d => d.parameters.length) = some 2 := by decide +kernel
theorem hL_X2_paint : yX2_paint.cls = RX2 ∧ yX2_paint.cls ≠ "java/lang/invoke/MethodHandle" ∧ yX2_paint.cls ≠ "java/lang/invoke/VarHandle" ∧ (parseMethodDescriptor yX2_paint.desc).map (fun d => d.parameters.length) = some 2 := by decide +kernel
theorem hL_X3_paint : yX3_paint.cls = RX3 ∧ yX3_paint.cls ≠ "java/lang/invoke/MethodHandle" ∧ yX3_paint.cls ≠ "java/lang/invoke/VarHandle" ∧ (parseMethodDescriptor yX3_paint.desc).map (fun d => d.parameters.length) = some 2 := by decide +kernel
theorem hL_X2_load : yX2_load.cls = RX2 ∧ yX2_load.cls ≠ "java/lang/invoke/MethodHandle" ∧ yX2_load.cls ≠ "java/lang/invoke/VarHandle" ∧ (parseMethodDescriptor yX2_load.desc).map (fun d => d.parameters.length) = some 2 := by decide +kernel
theorem hL_X3_load : yX3_load.cls = RX3 ∧ yX3_load.cls ≠ "java/lang/invoke/MethodHandle" ∧ yX3_load.cls ≠ "java/lang/invoke/VarHandle" ∧ (parseMethodDescriptor yX3_load.desc).map (fun d => d.parameters.length) = some 2 := by decide +kernel
theorem hL_X2_poll : yX2_poll.cls = RX2 ∧ yX2_poll.cls ≠ "java/lang/invoke/MethodHandle" ∧ yX2_poll.cls ≠ "java/lang/invoke/VarHandle" ∧ (parseMethodDescriptor yX2_poll.desc).map (fun d => d.parameters.length) = some 1 := by decide +kernel
theorem hL_X3_poll : yX3_poll.cls = RX3 ∧ yX3_poll.cls ≠ "java/lang/invoke/MethodHandle" ∧ yX3_poll.cls ≠ "java/lang/invoke/VarHandle" ∧ (parseMethodDescriptor yX3_poll.desc).map (fun d => d.parameters.length) = some 1 := by decide +kernel
theorem hL_X2_turn : yX2_turn.cls = RX2 ∧ yX2_turn.cls ≠ "java/lang/invoke/MethodHandle" ∧ yX2_turn.cls ≠ "java/lang/invoke/VarHandle" ∧ (parseMethodDescriptor yX2_turn.desc).map (fun d => d.parameters.length) = some 2 := by decide +kernel
theorem hL_X3_turn : yX3_turn.cls = RX3 ∧ yX3_turn.cls ≠ "java/lang/invoke/MethodHandle" ∧ yX3_turn.cls ≠ "java/lang/invoke/VarHandle" ∧ (parseMethodDescriptor yX3_turn.desc).map (fun d => d.parameters.length) = some 2 := by decide +kernel
theorem hL_X2_gust : yX2_gust.cls = RX2 ∧ yX2_gust.cls ≠ "java/lang/invoke/MethodHandle" ∧ yX2_gust.cls ≠ "java/lang/invoke/VarHandle" ∧ (parseMethodDescriptor yX2_gust.desc).map (fun d => d.parameters.length) = some 2 := by decide +kernel
theorem hL_X3_gust : yX3_gust.cls = RX3 ∧ yX3_gust.cls ≠ "java/lang/invoke/MethodHandle" ∧ yX3_gust.cls ≠ "java/lang/invoke/VarHandle" ∧ (parseMethodDescriptor yX3_gust.desc).map (fun d => d.parameters.length) = some 2 := by decide +kernel
theorem hL_X2_rain : yX2_rain.cls = RX2 ∧ yX2_rain.cls ≠ "java/lang/invoke/MethodHandle" ∧ yX2_rain.cls ≠ "java/lang/invoke/VarHandle" ∧ (parseMethodDescriptor yX2_rain.desc).map (fun d => d.parameters.length) = some 0 := by decide +kernel
theorem hL_X3_rain : yX3_rain.cls = RX3 ∧ yX3_rain.cls ≠ "java/lang/invoke/MethodHandle" ∧ yX3_rain.cls ≠ "java/lang/invoke/VarHandle" ∧ (parseMethodDescriptor yX3_rain.desc).map (fun d => d.parameters.length) = some 0 := by decide +kernel
theorem hL_X2_open : yX2_open.cls = RX2 ∧ yX2_open.cls ≠ "java/lang/invoke/MethodHandle" ∧ yX2_open.cls ≠ "java/lang/invoke/VarHandle" ∧ (parseMethodDescriptor yX2_open.desc).map (fun d => d.parameters.length) = some 1 := by decide +kernel
theorem hL_X3_open : yX3_open.cls = RX3 ∧ yX3_open.cls ≠ "java/lang/invoke/MethodHandle" ∧ yX3_open.cls ≠ "java/lang/invoke/VarHandle" ∧ (parseMethodDescriptor yX3_open.desc).map (fun d => d.parameters.length) = some 1 := by decide +kernel
theorem hL_X2_day : yX2_day.cls = RX2 ∧ yX2_day.cls ≠ "java/lang/invoke/MethodHandle" ∧ yX2_day.cls ≠ "java/lang/invoke/VarHandle" ∧ (parseMethodDescriptor yX2_day.desc).map (fun d => d.parameters.length) = some 5 := by decide +kernel
theorem hL_X3_day : yX3_day.cls = RX3 ∧ yX3_day.cls ≠ "java/lang/invoke/MethodHandle" ∧ yX3_day.cls ≠ "java/lang/invoke/VarHandle" ∧ (parseMethodDescriptor yX3_day.desc).map (fun d => d.parameters.length) = some 5 := by decide +kernel
theorem hL_X2_swing : yX2_swing.cls = RX2 ∧ yX2_swing.cls ≠ "java/lang/invoke/MethodHandle" ∧ yX2_swing.cls ≠ "java/lang/invoke/VarHandle" ∧ (parseMethodDescriptor yX2_swing.desc).map (fun d => d.parameters.length) = some 0 := by decide +kernel
theorem hL_X3_swing : yX3_swing.cls = RX3 ∧ yX3_swing.cls ≠ "java/lang/invoke/MethodHandle" ∧ yX3_swing.cls ≠ "java/lang/invoke/VarHandle" ∧ (parseMethodDescriptor yX3_swing.desc).map (fun d => d.parameters.length) = some 0 := by decide +kernel
theorem hL_X2_blow : yX2_blow.cls = RX2 ∧ yX2_blow.cls ≠ "java/lang/invoke/MethodHandle" ∧ yX2_blow.cls ≠ "java/lang/invoke/VarHandle" ∧ (parseMethodDescriptor yX2_blow.desc).map (fun d => d.parameters.length) = some 1 := by decide +kernel
theorem hL_X3_blow : yX3_blow.cls = RX3 ∧ yX3_blow.cls ≠ "java/lang/invoke/MethodHandle" ∧ yX3_blow.cls ≠ "java/lang/invoke/VarHandle" ∧ (parseMethodDescriptor yX3_blow.desc).map (fun d => d.parameters.length) = some 1 := by decide +kernel
theorem hL_X2_wards : yX2_wards.cls = RX2 ∧ yX2_wards.cls ≠ "java/lang/invoke/MethodHandle" ∧ yX2_wards.cls ≠ "java/lang/invoke/VarHandle" ∧ (parseMethodDescriptor yX2_wards.desc).map (fun d => d.parameters.length) = some 2 := by decide +kernel
theorem hL_X3_wards : yX3_wards.cls = RX3 ∧ yX3_wards.cls ≠ "java/lang/invoke/MethodHandle" ∧ yX3_wards.cls ≠ "java/lang/invoke/VarHandle" ∧ (parseMethodDescriptor yX3_wards.desc).map (fun d => d.parameters.length) = some 2 := by decide +kernel
theorem hL_X2_power : yX2_power.cls = RX2 ∧ yX2_power.cls ≠ "java/lang/invoke/MethodHandle" ∧ yX2_power.cls ≠ "java/lang/invoke/VarHandle" ∧ (parseMethodDescriptor yX2_power.desc).map (fun d => d.parameters.length) = some 2 := by decide +kernel
theorem hL_X3_power : yX3_power.cls = RX3 ∧ yX3_power.cls ≠ "java/lang/invoke/MethodHandle" ∧ yX3_power.cls ≠ "java/lang/invoke/VarHandle" ∧ (parseMethodDescriptor yX3_power.desc).map (fun d => d.parameters.length) = some 2 := by decide +kernel
theorem hL_X2_reading : yX2_reading.cls = RX2 ∧ yX2_reading.cls ≠ "java/lang/invoke/MethodHandle" ∧ yX2_reading.cls ≠ "java/lang/invoke/VarHandle" ∧ (parseMethodDescriptor yX2_reading.desc).map (fun d => d.parameters.length) = some 2 := by decide +kernel
theorem hL_X3_reading : yX3_reading.cls = RX3 ∧ yX3_reading.cls ≠ "java/lang/invoke/MethodHandle" ∧ yX3_reading.cls ≠ "java/lang/invoke/VarHandle" ∧ (parseMethodDescriptor yX3_reading.desc).map (fun d => d.parameters.length) = some 2 := by decide +kernel
theorem hL_X2_back : yX2_back.cls = RX2 ∧ yX2_back.cls ≠ "java/lang/invoke/MethodHandle" ∧ yX2_back.cls ≠ "java/lang/invoke/VarHandle" ∧ (parseMethodDescriptor yX2_back.desc).map (fun d => d.parameters.length) = some 1 := by decide +kernel
theorem hL_X3_back : yX3_back.cls = RX3 ∧ yX3_back.cls ≠ "java/lang/invoke/MethodHandle" ∧ yX3_back.cls ≠ "java/lang/invoke/VarHandle" ∧ (parseMethodDescriptor yX3_back.desc).map (fun d => d.parameters.length) = some 1 := by decide +kernel
theorem hL_X2_weights : yX2_weights.cls = RX2 ∧ yX2_weights.cls ≠ "java/lang/invoke/MethodHandle" ∧ yX2_weights.cls ≠ "java/lang/invoke/VarHandle" ∧ (parseMethodDescriptor yX2_weights.desc).map (fun d => d.parameters.length) = some 1 := by decide +kernel
theorem hL_X3_weights : yX3_weights.cls = RX3 ∧ yX3_weights.cls ≠ "java/lang/invoke/MethodHandle" ∧ yX3_weights.cls ≠ "java/lang/invoke/VarHandle" ∧ (parseMethodDescriptor yX3_weights.desc).map (fun d => d.parameters.length) = some 1 := by decide +kernel
theorem hL_X2_kinds : yX2_kinds.cls = RX2 ∧ yX2_kinds.cls ≠ "java/lang/invoke/MethodHandle" ∧ yX2_kinds.cls ≠ "java/lang/invoke/VarHandle" ∧ (parseMethodDescriptor yX2_kinds.desc).map (fun d => d.parameters.length) = some 1 := by decide +kernel
theorem hL_X3_kinds : yX3_kinds.cls = RX3 ∧ yX3_kinds.cls ≠ "java/lang/invoke/MethodHandle" ∧ yX3_kinds.cls ≠ "java/lang/invoke/VarHandle" ∧ (parseMethodDescriptor yX3_kinds.desc).map (fun d => d.parameters.length) = some 1 := by decide +kernel
theorem hL_X2_odds : yX2_odds.cls = RX2 ∧ yX2_odds.cls ≠ "java/lang/invoke/MethodHandle" ∧ yX2_odds.cls ≠ "java/lang/invoke/VarHandle" ∧ (parseMethodDescriptor yX2_odds.desc).map (fun d => d.parameters.length) = some 2 := by decide +kernel
theorem hL_X3_odds : yX3_odds.cls = RX3 ∧ yX3_odds.cls ≠ "java/lang/invoke/MethodHandle" ∧ yX3_odds.cls ≠ "java/lang/invoke/VarHandle" ∧ (parseMethodDescriptor yX3_odds.desc).map (fun d => d.parameters.length) = some 2 := by decide +kernel
theorem hL_X2_sheet : yX2_sheet.cls = RX2 ∧ yX2_sheet.cls ≠ "java/lang/invoke/MethodHandle" ∧ yX2_sheet.cls ≠ "java/lang/invoke/VarHandle" ∧ (parseMethodDescriptor yX2_sheet.desc).map (fun d => d.parameters.length) = some 3 := by decide +kernel
theorem hL_X3_sheet : yX3_sheet.cls = RX3 ∧ yX3_sheet.cls ≠ "java/lang/invoke/MethodHandle" ∧ yX3_sheet.cls ≠ "java/lang/invoke/VarHandle" ∧ (parseMethodDescriptor yX3_sheet.desc).map (fun d => d.parameters.length) = some 3 := by decide +kernel
theorem hL_X2_lose : yX2_lose.cls = RX2 ∧ yX2_lose.cls ≠ "java/lang/invoke/MethodHandle" ∧ yX2_lose.cls ≠ "java/lang/invoke/VarHandle" ∧ (parseMethodDescriptor yX2_lose.desc).map (fun d => d.parameters.length) = some 1 := by decide +kernel
theorem hL_X3_lose : yX3_lose.cls = RX3 ∧ yX3_lose.cls ≠ "java/lang/invoke/MethodHandle" ∧ yX3_lose.cls ≠ "java/lang/invoke/VarHandle" ∧ (parseMethodDescriptor yX3_lose.desc).map (fun d => d.parameters.length) = some 1 := by decide +kernel
theorem hL_X2_put : yX2_put.cls = RX2 ∧ yX2_put.cls ≠ "java/lang/invoke/MethodHandle" ∧ yX2_put.cls ≠ "java/lang/invoke/VarHandle" ∧ (parseMethodDescriptor yX2_put.desc).map (fun d => d.parameters.length) = some 3 := by decide +kernel
theorem hL_X3_put : yX3_put.cls = RX3 ∧ yX3_put.cls ≠ "java/lang/invoke/MethodHandle" ∧ yX3_put.cls ≠ "java/lang/invoke/VarHandle" ∧ (parseMethodDescriptor yX3_put.desc).map (fun d => d.parameters.length) = some 3 := by decide +kernel
theorem hL_X2_cell : yX2_cell.cls = RX2 ∧ yX2_cell.cls ≠ "java/lang/invoke/MethodHandle" ∧ yX2_cell.cls ≠ "java/lang/invoke/VarHandle" ∧ (parseMethodDescriptor yX2_cell.desc).map (fun d => d.parameters.length) = some 3 := by decide +kernel
theorem hL_X3_cell : yX3_cell.cls = RX3 ∧ yX3_cell.cls ≠ "java/lang/invoke/MethodHandle" ∧ yX3_cell.cls ≠ "java/lang/invoke/VarHandle" ∧ (parseMethodDescriptor yX3_cell.desc).map (fun d => d.parameters.length) = some 3 := by decide +kernel
theorem hL_X2_copy : yX2_copy.cls = RX2 ∧ yX2_copy.cls ≠ "java/lang/invoke/MethodHandle" ∧ yX2_copy.cls ≠ "java/lang/invoke/VarHandle" ∧ (parseMethodDescriptor yX2_copy.desc).map (fun d => d.parameters.length) = some 5 := by decide +kernel
theorem hL_X3_copy : yX3_copy.cls = RX3 ∧ yX3_copy.cls ≠ "java/lang/invoke/MethodHandle" ∧ yX3_copy.cls ≠ "java/lang/invoke/VarHandle" ∧ (parseMethodDescriptor yX3_copy.desc).map (fun d => d.parameters.length) = some 5 := by decide +kernel
theorem hL_X2_tell : yX2_tell.cls = RX2 ∧ yX2_tell.cls ≠ "java/lang/invoke/MethodHandle" ∧ yX2_tell.cls ≠ "java/lang/invoke/VarHandle" ∧ (parseMethodDescriptor yX2_tell.desc).map (fun d => d.parameters.length) = some 1 := by decide +kernel
theorem hL_X3_tell : yX3_tell.cls = RX3 ∧ yX3_tell.cls ≠ "java/lang/invoke/MethodHandle" ∧ yX3_tell.cls ≠ "java/lang/invoke/VarHandle" ∧ (parseMethodDescriptor yX3_tell.desc).map (fun d => d.parameters.length) = some 1 := by decide +kernel
theorem hL_X2_chalk : yX2_chalk.cls = RX2 ∧ yX2_chalk.cls ≠ "java/lang/invoke/MethodHandle" ∧ yX2_chalk.cls ≠ "java/lang/invoke/VarHandle" ∧ (parseMethodDescriptor yX2_chalk.desc).map (fun d => d.parameters.length) = some 1 := by decide +kernel
theorem hL_X3_chalk : yX3_chalk.cls = RX3 ∧ yX3_chalk.cls ≠ "java/lang/invoke/MethodHandle" ∧ yX3_chalk.cls ≠ "java/lang/invoke/VarHandle" ∧ (parseMethodDescriptor yX3_chalk.desc).map (fun d => d.parameters.length) = some 1 := by decide +kernel
theorem hL_X2_as : yX2_as.cls = RX2 ∧ yX2_as.cls ≠ "java/lang/invoke/MethodHandle" ∧ yX2_as.cls ≠ "java/lang/invoke/VarHandle" ∧ (parseMethodDescriptor yX2_as.desc).map (fun d => d.parameters.length) = some 2 := by decide +kernel
theorem hL_X3_as : yX3_as.cls = RX3 ∧ yX3_as.cls ≠ "java/lang/invoke/MethodHandle" ∧ yX3_as.cls ≠ "java/lang/invoke/VarHandle" ∧ (parseMethodDescriptor yX3_as.desc).map (fun d => d.parameters.length) = some 2 := by decide +kernel
theorem hL_X2_trace : yX2_trace.cls = RX2 ∧ yX2_trace.cls ≠ "java/lang/invoke/MethodHandle" ∧ yX2_trace.cls ≠ "java/lang/invoke/VarHandle" ∧ (parseMethodDescriptor yX2_trace.desc).map (fun d => d.parameters.length) = some 0 := by decide +kernel
theorem hL_X3_trace : yX3_trace.cls = RX3 ∧ yX3_trace.cls ≠ "java/lang/invoke/MethodHandle" ∧ yX3_trace.cls ≠ "java/lang/invoke/VarHandle" ∧ (parseMethodDescriptor yX3_trace.desc).map (fun d => d.parameters.length) = some 0 := by decide +kernel
theorem hL_X2_fault : yX2_fault.cls = RX2 ∧ yX2_fault.cls ≠ "java/lang/invoke/MethodHandle" ∧ yX2_fault.cls ≠ "java/lang/invoke/VarHandle" ∧ (parseMethodDescriptor yX2_fault.desc).map (fun d => d.parameters.length) = some 0 := by decide +kernel
theorem hL_X3_fault : yX3_fault.cls = RX3 ∧ yX3_fault.cls ≠ "java/lang/invoke/MethodHandle" ∧ yX3_fault.cls ≠ "java/lang/invoke/VarHandle" ∧ (parseMethodDescriptor yX3_fault.desc).map (fun d => d.parameters.length) = some 0 := by decide +kernel
theorem hL_X2_many : yX2_many.cls = RX2 ∧ yX2_many.cls ≠ "java/lang/invoke/MethodHandle" ∧ yX2_many.cls ≠ "java/lang/invoke/VarHandle" ∧ (parseMethodDescriptor yX2_many.desc).map (fun d => d.parameters.length) = some 1 := by decide +kernel
theorem hL_X3_many : yX3_many.cls = RX3 ∧ yX3_many.cls ≠ "java/lang/invoke/MethodHandle" ∧ yX3_many.cls ≠ "java/lang/invoke/VarHandle" ∧ (parseMethodDescriptor yX3_many.desc).map (fun d => d.parameters.length) = some 1 := by decide +kernel
set_option maxHeartbeats 4000000 in
set_option maxRecDepth 100000 in
theorem law_c0 {p : Program} {l : Launch} {e : Env} {s : State} {m : MethodId} {below : List Frame} {meth : Method} {c : Code} {D : va_G} {cI cS : ClassId} {adx adm : Nat → Nat} {b L i : Nat} {xs : Nat → Int32} (hL : L ≤ 3072) (hi : i + 6 ≤ L) (C0 : lw_At p s m meth c b L xs) (C1 : LwC D cI cS s adx adm) {H : Heap} {locs : List Loc} (hI : LwS D cI cS adx adm H) (hS : va_S (LwA s) s.heap H locs) {ls : Array Slot} (hl : lv_has ls 4 [(0, .ref b), (1, .ref (adx 0)), (2, .ref (adm 0)), (3, .int (nI i))])
    (kk : ∀ (H : Heap) (locs : List Loc), LwS D cI cS adx adm H → va_S (LwA s) s.heap H locs → W p l e room_1 s m #[Value.ref b] below meth c H locs 600000 7302250 (lw_Z below #[Value.ref b] s) (F0 m 1091 ls [])) : W p l e room_1 s m #[Value.ref b] below meth c H locs 600000 7302250 (lw_Z below #[Value.ref b] s) (F0 m 168 ls []) := by
  obtain ⟨hx, hb, hr, hml, hown, hts0, hX, hbl, hlocks, hgv⟩ := id C0
  obtain ⟨hG, ndx, ndm, hdd, hAx, hAm⟩ := C1
  obtain ⟨n, fo, ki, st, we, lo, rd, rc, rv, sh, sla, sle, bg, tr, fa, n2, go, kj, sj, wj, lj, ti, ra, rch, q0, q1, q2, q3, fk, fc, hd, hB, hPx, hPm⟩ := hI
  obtain ⟨hn, hfo, hki, hst, hwe, hlo, hrd, hrc, hrv, hsla, hsle⟩ := id hB
  have hbA : ¬ LwA s b := Nat.not_le.mpr hbl
  have hts : ∀ w ∈ wsL_law, w.before #[Value.ref b] s = true := fun w h => hts0 w (wsL_law_in w h)
  have hF : CallFix p m c cL_law 4 s _ wsL_law RL := ⟨hx, hb, hml, hown, hts⟩
  refine lv_aload_n hx hb dL_law_168 rfl (lv_at hl 1 rfl) ?_
  refine lv_aload_n hx hb dL_law_169 rfl (lv_at hl 0 rfl) ?_
  refine lv_iload_n hx hb dL_law_170 rfl (lv_at hl 3 rfl) ?_
  refine lv_iconst (v := nI 1) hx hb dL_law_171 (by decide) ?_
  refine xaddN hx hb dL_law_172 ?_
  refine xsld hx hb hX hbl hbA hS (i + 1) rfl (by omega) hL dL_law_173 ?_
  refine lv_aload_n hx hb dL_law_174 rfl (lv_at hl 0 rfl) ?_
  refine lv_iload_n hx hb dL_law_175 rfl (lv_at hl 3 rfl) ?_
  refine lv_iconst (v := nI 2) hx hb dL_law_176 (by decide) ?_
  refine xaddN hx hb dL_law_177 ?_
  refine xsld hx hb hX hbl hbA hS (i + 2) rfl (by omega) hL dL_law_178 ?_
  refine lv_aload_n hx hb dL_law_179 rfl (lv_at hl 0 rfl) ?_
  refine lv_iload_n hx hb dL_law_180 rfl (lv_at hl 3 rfl) ?_
  refine lv_iconst (v := nI 3) hx hb dL_law_181 (by decide) ?_
  refine xaddN hx hb dL_law_182 ?_
  refine xsld hx hb hX hbl hbA hS (i + 3) rfl (by omega) hL dL_law_183 ?_
  refine lv_aload_n hx hb dL_law_184 rfl (lv_at hl 0 rfl) ?_
  refine lv_iload_n hx hb dL_law_185 rfl (lv_at hl 3 rfl) ?_
  refine lv_iconst (v := nI 4) hx hb dL_law_186 (by decide) ?_
  refine xaddN hx hb dL_law_187 ?_
  refine xsld hx hb hX hbl hbA hS (i + 4) rfl (by omega) hL dL_law_188 ?_
  refine lawI (va_runV (As := [.int (xs (i + 1)), .int (xs (i + 2)), .int (xs (i + 3)), .int (xs (i + 4))]) (rest := []) hF (c_X2_front l D cI cS adx sh sla sle (bigF bg) n fo ki st we lo n2 go kj sj wj lj ti rc rv rd tr fa (xs (i + 1)) (xs (i + 2)) (xs (i + 3)) (xs (i + 4)) ndx hsla hsle) (cwV 4 hts gL_law_X2_front rfl rfl rfl hL_X2_front ⟨(Nat.le_of_ble_eq_true rfl), (Nat.le_of_ble_eq_true rfl)⟩) (PR.preV hG hPx (ci := 2) rfl rfl) rfl rfl hl.1 rfl (lv_room (Nat.le_of_ble_eq_true rfl)) dL_law_189 ⟨(Nat.le_of_ble_eq_true rfl), (Nat.le_of_ble_eq_true rfl)⟩) hS hAx hPm rfl hdd (fun r_0 u_0 H locs q_0 hPx hPm hS => ?_)
  try dsimp only at q_0 hPx
  have hPx : va_P D vwCl (wX cI cS adx sh sla sle (bigF bg) (ifO (okFront sh sla sle (bigF bg) (xs (i + 1)) (xs (i + 2)) (xs (i + 3)) (xs (i + 4))) (numT (xs (i + 4))) n) (ifO (okFront sh sla sle (bigF bg) (xs (i + 1)) (xs (i + 2)) (xs (i + 3)) (xs (i + 4))) 0 fo) (ifO (okFront sh sla sle (bigF bg) (xs (i + 1)) (xs (i + 2)) (xs (i + 3)) (xs (i + 4))) (tkF (numT (xs (i + 4))) (kiT (textA ((bigF bg) (xs (i + 1)).toNatClampNeg) (xs (i + 3)).toNatClampNeg)) ki) ki) (ifO (okFront sh sla sle (bigF bg) (xs (i + 1)) (xs (i + 2)) (xs (i + 3)) (xs (i + 4))) (tkF (numT (xs (i + 4))) (stT (textA ((bigF bg) (xs (i + 1)).toNatClampNeg) (xs (i + 3)).toNatClampNeg)) st) st) (ifO (okFront sh sla sle (bigF bg) (xs (i + 1)) (xs (i + 2)) (xs (i + 3)) (xs (i + 4))) (tkF (numT (xs (i + 4))) (weT (textA ((bigF bg) (xs (i + 1)).toNatClampNeg) (xs (i + 3)).toNatClampNeg)) we) we) (ifO (okFront sh sla sle (bigF bg) (xs (i + 1)) (xs (i + 2)) (xs (i + 3)) (xs (i + 4))) (tkF (numT (xs (i + 4))) (loT (textA ((bigF bg) (xs (i + 1)).toNatClampNeg) (xs (i + 3)).toNatClampNeg)) lo) lo) n2 go kj sj wj lj ti rc rv (ifO (okFront sh sla sle (bigF bg) (xs (i + 1)) (xs (i + 2)) (xs (i + 3)) (xs (i + 4))) 0 rd) tr (S_front sh sla sle (xs (i + 1)) (xs (i + 2)) (xs (i + 3)) (xs (i + 4)))) H := hPx
  have e_0 : r_0 = A_front sh sla sle (bigF bg) (xs (i + 1)) (xs (i + 2)) (xs (i + 3)) (xs (i + 4)) := q_0
  subst e_0
  refine lv_aload_n hx hb dL_law_192 rfl (lv_at hl 2 rfl) ?_
  refine lv_aload_n hx hb dL_law_193 rfl (lv_at hl 0 rfl) ?_
  refine lv_iload_n hx hb dL_law_194 rfl (lv_at hl 3 rfl) ?_
  refine lv_iconst (v := nI 1) hx hb dL_law_195 (by decide) ?_
  refine xaddN hx hb dL_law_196 ?_
  refine xsld hx hb hX hbl hbA hS (i + 1) rfl (by omega) hL dL_law_197 ?_
  refine lv_aload_n hx hb dL_law_198 rfl (lv_at hl 0 rfl) ?_
  refine lv_iload_n hx hb dL_law_199 rfl (lv_at hl 3 rfl) ?_
  refine lv_iconst (v := nI 2) hx hb dL_law_200 (by decide) ?_
  refine xaddN hx hb dL_law_201 ?_
  refine xsld hx hb hX hbl hbA hS (i + 2) rfl (by omega) hL dL_law_202 ?_
  refine lv_aload_n hx hb dL_law_203 rfl (lv_at hl 0 rfl) ?_
  refine lv_iload_n hx hb dL_law_204 rfl (lv_at hl 3 rfl) ?_
  refine lv_iconst (v := nI 3) hx hb dL_law_205 (by decide) ?_
  refine xaddN hx hb dL_law_206 ?_
  refine xsld hx hb hX hbl hbA hS (i + 3) rfl (by omega) hL dL_law_207 ?_
  refine lv_aload_n hx hb dL_law_208 rfl (lv_at hl 0 rfl) ?_
  refine lv_iload_n hx hb dL_law_209 rfl (lv_at hl 3 rfl) ?_
  refine lv_iconst (v := nI 4) hx hb dL_law_210 (by decide) ?_
  refine xaddN hx hb dL_law_211 ?_
  refine xsld hx hb hX hbl hbA hS (i + 4) rfl (by omega) hL dL_law_212 ?_
  refine lawI (va_runV (As := [.int (xs (i + 1)), .int (xs (i + 2)), .int (xs (i + 3)), .int (xs (i + 4))]) (rest := [.int (A_front sh sla sle (bigF bg) (xs (i + 1)) (xs (i + 2)) (xs (i + 3)) (xs (i + 4)))]) hF (c_X3_front l D cI cS adm fa n fo ki st we lo ra rch q0 q1 q2 q3 fk fc rd rc rv sh sle sla bg hd tr (xs (i + 1)) (xs (i + 2)) (xs (i + 3)) (xs (i + 4)) ndm hsla hsle) (cwV 4 hts gL_law_X3_front rfl rfl rfl hL_X3_front ⟨(Nat.le_of_ble_eq_true rfl), (Nat.le_of_ble_eq_true rfl)⟩) (PR.preV hG hPm (ci := 3) rfl rfl) rfl rfl hl.1 rfl (lv_room (Nat.le_of_ble_eq_true rfl)) dL_law_213 ⟨(Nat.le_of_ble_eq_true rfl), (Nat.le_of_ble_eq_true rfl)⟩) hS hAm hPx rfl (fun q h1 h2 => hdd q h2 h1) (fun r_1 u_1 H locs q_1 hPm hPx hS => ?_)
  obtain ⟨ra0_1, rch0_1, q00_1, q10_1, q20_1, q30_1⟩ := u_1
  try dsimp only at q_1 hPm
  have hPm : va_P D vwCl (wM cI adm (S_front sh sla sle (xs (i + 1)) (xs (i + 2)) (xs (i + 3)) (xs (i + 4))) (ifO (okFront sh sla sle (bigF bg) (xs (i + 1)) (xs (i + 2)) (xs (i + 3)) (xs (i + 4))) (numT (xs (i + 4))) n) (ifO (okFront sh sla sle (bigF bg) (xs (i + 1)) (xs (i + 2)) (xs (i + 3)) (xs (i + 4))) 0 fo) (ifO (okFront sh sla sle (bigF bg) (xs (i + 1)) (xs (i + 2)) (xs (i + 3)) (xs (i + 4))) (tkF (numT (xs (i + 4))) (kiT (textA (bigF bg (xs (i + 1)).toNatClampNeg) (xs (i + 3)).toNatClampNeg)) ki) ki) (ifO (okFront sh sla sle (bigF bg) (xs (i + 1)) (xs (i + 2)) (xs (i + 3)) (xs (i + 4))) (tkF (numT (xs (i + 4))) (stT (textA (bigF bg (xs (i + 1)).toNatClampNeg) (xs (i + 3)).toNatClampNeg)) st) st) (ifO (okFront sh sla sle (bigF bg) (xs (i + 1)) (xs (i + 2)) (xs (i + 3)) (xs (i + 4))) (tkF (numT (xs (i + 4))) (weT (textA (bigF bg (xs (i + 1)).toNatClampNeg) (xs (i + 3)).toNatClampNeg)) we) we) (ifO (okFront sh sla sle (bigF bg) (xs (i + 1)) (xs (i + 2)) (xs (i + 3)) (xs (i + 4))) (tkF (numT (xs (i + 4))) (loT (textA (bigF bg (xs (i + 1)).toNatClampNeg) (xs (i + 3)).toNatClampNeg)) lo) lo) ra0_1 rch0_1 q00_1 q10_1 q20_1 q30_1 fk fc (ifO (okFront sh sla sle (bigF bg) (xs (i + 1)) (xs (i + 2)) (xs (i + 3)) (xs (i + 4))) 0 rd) rc rv sh sle sla bg hd tr) H := hPm
  have e_1 : r_1 = A_front sh sla sle (bigF bg) (xs (i + 1)) (xs (i + 2)) (xs (i + 3)) (xs (i + 4)) := q_1
  subst e_1
  refine lv_icmp_eq (tgt := 1091) hx hb dL_law_216 (by decide) (fun c_9 => ?_) (fun c_9 => ?_)
  ·
    exact kk _ _ ⟨ifO (okFront sh sla sle (bigF bg) (xs (i + 1)) (xs (i + 2)) (xs (i + 3)) (xs (i + 4))) (numT (xs (i + 4))) n, ifO (okFront sh sla sle (bigF bg) (xs (i + 1)) (xs (i + 2)) (xs (i + 3)) (xs (i + 4))) 0 fo, ifO (okFront sh sla sle (bigF bg) (xs (i + 1)) (xs (i + 2)) (xs (i + 3)) (xs (i + 4))) (tkF (numT (xs (i + 4))) (kiT (textA (bigF bg (xs (i + 1)).toNatClampNeg) (xs (i + 3)).toNatClampNeg)) ki) ki, ifO (okFront sh sla sle (bigF bg) (xs (i + 1)) (xs (i + 2)) (xs (i + 3)) (xs (i + 4))) (tkF (numT (xs (i + 4))) (stT (textA (bigF bg (xs (i + 1)).toNatClampNeg) (xs (i + 3)).toNatClampNeg)) st) st, ifO (okFront sh sla sle (bigF bg) (xs (i + 1)) (xs (i + 2)) (xs (i + 3)) (xs (i + 4))) (tkF (numT (xs (i + 4))) (weT (textA (bigF bg (xs (i + 1)).toNatClampNeg) (xs (i + 3)).toNatClampNeg)) we) we, ifO (okFront sh sla sle (bigF bg) (xs (i + 1)) (xs (i + 2)) (xs (i + 3)) (xs (i + 4))) (tkF (numT (xs (i + 4))) (loT (textA (bigF bg (xs (i + 1)).toNatClampNeg) (xs (i + 3)).toNatClampNeg)) lo) lo, ifO (okFront sh sla sle (bigF bg) (xs (i + 1)) (xs (i + 2)) (xs (i + 3)) (xs (i + 4))) 0 rd, rc, rv, sh, sla, sle, bg, tr, S_front sh sla sle (xs (i + 1)) (xs (i + 2)) (xs (i + 3)) (xs (i + 4)), n2, go, kj, sj, wj, lj, ti, ra0_1, rch0_1, q00_1, q10_1, q20_1, q30_1, fk, fc, hd, st_front hB, hPx, hPm⟩ hS
  · exact absurd rfl c_9
set_option maxHeartbeats 4000000 in
set_option maxRecDepth 100000 in
theorem law_c1 {p : Program} {l : Launch} {e : Env} {s : State} {m : MethodId} {below : List Frame} {meth : Method} {c : Code} {D : va_G} {cI cS : ClassId} {adx adm : Nat → Nat} {b L i : Nat} {xs : Nat → Int32} (hL : L ≤ 3072) (hi : i + 6 ≤ L) (C0 : lw_At p s m meth c b L xs) (C1 : LwC D cI cS s adx adm) {H : Heap} {locs : List Loc} (hI : LwS D cI cS adx adm H) (hS : va_S (LwA s) s.heap H locs) {ls : Array Slot} (hl : lv_has ls 4 [(0, .ref b), (1, .ref (adx 0)), (2, .ref (adm 0)), (3, .int (nI i))])
    (kk : ∀ (H : Heap) (locs : List Loc), LwS D cI cS adx adm H → va_S (LwA s) s.heap H locs → W p l e room_1 s m #[Value.ref b] below meth c H locs 600000 7302250 (lw_Z below #[Value.ref b] s) (F0 m 1091 ls [])) : W p l e room_1 s m #[Value.ref b] below meth c H locs 600000 7302250 (lw_Z below #[Value.ref b] s) (F0 m 221 ls []) := by
  obtain ⟨hx, hb, hr, hml, hown, hts0, hX, hbl, hlocks, hgv⟩ := id C0
  obtain ⟨hG, ndx, ndm, hdd, hAx, hAm⟩ := C1
  obtain ⟨n, fo, ki, st, we, lo, rd, rc, rv, sh, sla, sle, bg, tr, fa, n2, go, kj, sj, wj, lj, ti, ra, rch, q0, q1, q2, q3, fk, fc, hd, hB, hPx, hPm⟩ := hI
  obtain ⟨hn, hfo, hki, hst, hwe, hlo, hrd, hrc, hrv, hsla, hsle⟩ := id hB
  have hbA : ¬ LwA s b := Nat.not_le.mpr hbl
  have hts : ∀ w ∈ wsL_law, w.before #[Value.ref b] s = true := fun w h => hts0 w (wsL_law_in w h)
  have hF : CallFix p m c cL_law 4 s _ wsL_law RL := ⟨hx, hb, hml, hown, hts⟩
  refine lv_aload_n hx hb dL_law_221 rfl (lv_at hl 1 rfl) ?_
  refine lv_aload_n hx hb dL_law_222 rfl (lv_at hl 0 rfl) ?_
  refine lv_iload_n hx hb dL_law_223 rfl (lv_at hl 3 rfl) ?_
  refine lv_iconst (v := nI 1) hx hb dL_law_224 (by decide) ?_
  refine xaddN hx hb dL_law_225 ?_
  refine xsld hx hb hX hbl hbA hS (i + 1) rfl (by omega) hL dL_law_226 ?_
  refine lv_aload_n hx hb dL_law_227 rfl (lv_at hl 0 rfl) ?_
  refine lv_iload_n hx hb dL_law_228 rfl (lv_at hl 3 rfl) ?_
  refine lv_iconst (v := nI 2) hx hb dL_law_229 (by decide) ?_
  refine xaddN hx hb dL_law_230 ?_
  refine xsld hx hb hX hbl hbA hS (i + 2) rfl (by omega) hL dL_law_231 ?_
  refine xrd (va_runV (As := [.int (xs (i + 1)), .int (xs (i + 2))]) (rest := []) hF (c_X2_ofChair l D cI cS adx sh sla sle (bigF bg) n fo ki st we lo n2 go kj sj wj lj ti rc rv rd tr fa (xs (i + 1)) (xs (i + 2)) hn hfo hki hwe hst hlo) (cwV 2 hts gL_law_X2_ofChair rfl rfl rfl hL_X2_ofChair ⟨(Nat.le_of_ble_eq_true rfl), (Nat.le_of_ble_eq_true rfl)⟩) (PR.preV hG hPx (ci := 2) rfl rfl) rfl rfl hl.1 rfl (lv_room (Nat.le_of_ble_eq_true rfl)) dL_law_232 ⟨(Nat.le_of_ble_eq_true rfl), (Nat.le_of_ble_eq_true rfl)⟩) ?_
  refine lv_aload_n hx hb dL_law_235 rfl (lv_at hl 2 rfl) ?_
  refine lv_aload_n hx hb dL_law_236 rfl (lv_at hl 0 rfl) ?_
  refine lv_iload_n hx hb dL_law_237 rfl (lv_at hl 3 rfl) ?_
  refine lv_iconst (v := nI 1) hx hb dL_law_238 (by decide) ?_
  refine xaddN hx hb dL_law_239 ?_
  refine xsld hx hb hX hbl hbA hS (i + 1) rfl (by omega) hL dL_law_240 ?_
  refine lv_aload_n hx hb dL_law_241 rfl (lv_at hl 0 rfl) ?_
  refine lv_iload_n hx hb dL_law_242 rfl (lv_at hl 3 rfl) ?_
  refine lv_iconst (v := nI 2) hx hb dL_law_243 (by decide) ?_
  refine xaddN hx hb dL_law_244 ?_
  refine xsld hx hb hX hbl hbA hS (i + 2) rfl (by omega) hL dL_law_245 ?_
  refine xrd (va_runV (As := [.int (xs (i + 1)), .int (xs (i + 2))]) (rest := [.int (A_ofChair n fo ki st we lo (xs (i + 1)) (xs (i + 2)))]) hF (c_X3_ofChair l D cI cS adm fa n fo ki st we lo ra rch q0 q1 q2 q3 fk fc rd rc rv sh sle sla bg hd tr (xs (i + 1)) (xs (i + 2)) hn hfo hki hwe hst hlo) (cwV 2 hts gL_law_X3_ofChair rfl rfl rfl hL_X3_ofChair ⟨(Nat.le_of_ble_eq_true rfl), (Nat.le_of_ble_eq_true rfl)⟩) (PR.preV hG hPm (ci := 3) rfl rfl) rfl rfl hl.1 rfl (lv_room (Nat.le_of_ble_eq_true rfl)) dL_law_246 ⟨(Nat.le_of_ble_eq_true rfl), (Nat.le_of_ble_eq_true rfl)⟩) ?_
  refine lv_icmp_eq (tgt := 1091) hx hb dL_law_249 (by decide) (fun c_9 => ?_) (fun c_9 => ?_)
  ·
    exact kk _ _ ⟨n, fo, ki, st, we, lo, rd, rc, rv, sh, sla, sle, bg, tr, fa, n2, go, kj, sj, wj, lj, ti, ra, rch, q0, q1, q2, q3, fk, fc, hd, hB, hPx, hPm⟩ hS
  · exact absurd rfl c_9
set_option maxHeartbeats 4000000 in
set_option maxRecDepth 100000 in
theorem law_c2 {p : Program} {l : Launch} {e : Env} {s : State} {m : MethodId} {below : List Frame} {meth : Method} {c : Code} {D : va_G} {cI cS : ClassId} {adx adm : Nat → Nat} {b L i : Nat} {xs : Nat → Int32} (hL : L ≤ 3072) (hi : i + 6 ≤ L) (C0 : lw_At p s m meth c b L xs) (C1 : LwC D cI cS s adx adm) {H : Heap} {locs : List Loc} (hI : LwS D cI cS adx adm H) (hS : va_S (LwA s) s.heap H locs) {ls : Array Slot} (hl : lv_has ls 4 [(0, .ref b), (1, .ref (adx 0)), (2, .ref (adm 0)), (3, .int (nI i))])
    (kk : ∀ (H : Heap) (locs : List Loc), LwS D cI cS adx adm H → va_S (LwA s) s.heap H locs → W p l e room_1 s m #[Value.ref b] below meth c H locs 600000 7302250 (lw_Z below #[Value.ref b] s) (F0 m 1091 ls [])) : W p l e room_1 s m #[Value.ref b] below meth c H locs 600000 7302250 (lw_Z below #[Value.ref b] s) (F0 m 254 ls []) := by
  obtain ⟨hx, hb, hr, hml, hown, hts0, hX, hbl, hlocks, hgv⟩ := id C0
  obtain ⟨hG, ndx, ndm, hdd, hAx, hAm⟩ := C1
  obtain ⟨n, fo, ki, st, we, lo, rd, rc, rv, sh, sla, sle, bg, tr, fa, n2, go, kj, sj, wj, lj, ti, ra, rch, q0, q1, q2, q3, fk, fc, hd, hB, hPx, hPm⟩ := hI
  obtain ⟨hn, hfo, hki, hst, hwe, hlo, hrd, hrc, hrv, hsla, hsle⟩ := id hB
  have hbA : ¬ LwA s b := Nat.not_le.mpr hbl
  have hts : ∀ w ∈ wsL_law, w.before #[Value.ref b] s = true := fun w h => hts0 w (wsL_law_in w h)
  have hF : CallFix p m c cL_law 4 s _ wsL_law RL := ⟨hx, hb, hml, hown, hts⟩
  refine lv_aload_n hx hb dL_law_254 rfl (lv_at hl 1 rfl) ?_
  refine lv_aload_n hx hb dL_law_255 rfl (lv_at hl 0 rfl) ?_
  refine lv_iload_n hx hb dL_law_256 rfl (lv_at hl 3 rfl) ?_
  refine lv_iconst (v := nI 1) hx hb dL_law_257 (by decide) ?_
  refine xaddN hx hb dL_law_258 ?_
  refine xsld hx hb hX hbl hbA hS (i + 1) rfl (by omega) hL dL_law_259 ?_
  refine lv_aload_n hx hb dL_law_260 rfl (lv_at hl 0 rfl) ?_
  refine lv_iload_n hx hb dL_law_261 rfl (lv_at hl 3 rfl) ?_
  refine lv_iconst (v := nI 2) hx hb dL_law_262 (by decide) ?_
  refine xaddN hx hb dL_law_263 ?_
  refine xsld hx hb hX hbl hbA hS (i + 2) rfl (by omega) hL dL_law_264 ?_
  refine lawI (va_runV (As := [.int (xs (i + 1)), .int (xs (i + 2))]) (rest := []) hF (c_X2_paint l D cI cS adx sh sla sle (bigF bg) n fo ki st we lo n2 go kj sj wj lj ti rc rv rd tr fa (xs (i + 1)) (xs (i + 2)) ndx hn hst) (cwV 2 hts gL_law_X2_paint rfl rfl rfl hL_X2_paint ⟨(Nat.le_of_ble_eq_true rfl), (Nat.le_of_ble_eq_true rfl)⟩) (PR.preV hG hPx (ci := 2) rfl rfl) rfl rfl hl.1 rfl (lv_room (Nat.le_of_ble_eq_true rfl)) dL_law_265 ⟨(Nat.le_of_ble_eq_true rfl), (Nat.le_of_ble_eq_true rfl)⟩) hS hAx hPm rfl hdd (fun r_0 u_0 H locs q_0 hPx hPm hS => ?_)
  try dsimp only at q_0 hPx
  have hPx : va_P D vwCl (wX cI cS adx sh sla sle (bigF bg) n fo ki (S_paint n st (xs (i + 1)) (xs (i + 2))) we lo n2 go kj sj wj lj ti rc rv rd tr fa) H := hPx
  have e_0 : r_0 = A_paint n st (xs (i + 1)) (xs (i + 2)) := q_0
  subst e_0
  refine lv_aload_n hx hb dL_law_268 rfl (lv_at hl 2 rfl) ?_
  refine lv_aload_n hx hb dL_law_269 rfl (lv_at hl 0 rfl) ?_
  refine lv_iload_n hx hb dL_law_270 rfl (lv_at hl 3 rfl) ?_
  refine lv_iconst (v := nI 1) hx hb dL_law_271 (by decide) ?_
  refine xaddN hx hb dL_law_272 ?_
  refine xsld hx hb hX hbl hbA hS (i + 1) rfl (by omega) hL dL_law_273 ?_
  refine lv_aload_n hx hb dL_law_274 rfl (lv_at hl 0 rfl) ?_
  refine lv_iload_n hx hb dL_law_275 rfl (lv_at hl 3 rfl) ?_
  refine lv_iconst (v := nI 2) hx hb dL_law_276 (by decide) ?_
  refine xaddN hx hb dL_law_277 ?_
  refine xsld hx hb hX hbl hbA hS (i + 2) rfl (by omega) hL dL_law_278 ?_
  refine lawI (va_runV (As := [.int (xs (i + 1)), .int (xs (i + 2))]) (rest := [.int (A_paint n st (xs (i + 1)) (xs (i + 2)))]) hF (c_X3_paint l D cI cS adm fa n fo ki st we lo ra rch q0 q1 q2 q3 fk fc rd rc rv sh sle sla bg hd tr (xs (i + 1)) (xs (i + 2)) ndm hn hst) (cwV 2 hts gL_law_X3_paint rfl rfl rfl hL_X3_paint ⟨(Nat.le_of_ble_eq_true rfl), (Nat.le_of_ble_eq_true rfl)⟩) (PR.preV hG hPm (ci := 3) rfl rfl) rfl rfl hl.1 rfl (lv_room (Nat.le_of_ble_eq_true rfl)) dL_law_279 ⟨(Nat.le_of_ble_eq_true rfl), (Nat.le_of_ble_eq_true rfl)⟩) hS hAm hPx rfl (fun q h1 h2 => hdd q h2 h1) (fun r_1 u_1 H locs q_1 hPm hPx hS => ?_)
  try dsimp only at q_1 hPm
  have hPm : va_P D vwCl (wM cI adm fa n fo ki (S_paint n st (xs (i + 1)) (xs (i + 2))) we lo ra rch q0 q1 q2 q3 fk fc rd rc rv sh sle sla bg hd tr) H := hPm
  have e_1 : r_1 = A_paint n st (xs (i + 1)) (xs (i + 2)) := q_1
  subst e_1
  refine lv_icmp_eq (tgt := 1091) hx hb dL_law_282 (by decide) (fun c_9 => ?_) (fun c_9 => ?_)
  ·
    exact kk _ _ ⟨n, fo, ki, S_paint n st (xs (i + 1)) (xs (i + 2)), we, lo, rd, rc, rv, sh, sla, sle, bg, tr, fa, n2, go, kj, sj, wj, lj, ti, ra, rch, q0, q1, q2, q3, fk, fc, hd, st_paint hB, hPx, hPm⟩ hS
  · exact absurd rfl c_9
set_option maxHeartbeats 4000000 in
set_option maxRecDepth 100000 in
theorem law_c3 {p : Program} {l : Launch} {e : Env} {s : State} {m : MethodId} {below : List Frame} {meth : Method} {c : Code} {D : va_G} {cI cS : ClassId} {adx adm : Nat → Nat} {b L i : Nat} {xs : Nat → Int32} (hL : L ≤ 3072) (hi : i + 6 ≤ L) (C0 : lw_At p s m meth c b L xs) (C1 : LwC D cI cS s adx adm) {H : Heap} {locs : List Loc} (hI : LwS D cI cS adx adm H) (hS : va_S (LwA s) s.heap H locs) {ls : Array Slot} (hl : lv_has ls 4 [(0, .ref b), (1, .ref (adx 0)), (2, .ref (adm 0)), (3, .int (nI i))])
    (kk : ∀ (H : Heap) (locs : List Loc), LwS D cI cS adx adm H → va_S (LwA s) s.heap H locs → W p l e room_1 s m #[Value.ref b] below meth c H locs 600000 7302250 (lw_Z below #[Value.ref b] s) (F0 m 1091 ls [])) : W p l e room_1 s m #[Value.ref b] below meth c H locs 600000 7302250 (lw_Z below #[Value.ref b] s) (F0 m 287 ls []) := by
  obtain ⟨hx, hb, hr, hml, hown, hts0, hX, hbl, hlocks, hgv⟩ := id C0
  obtain ⟨hG, ndx, ndm, hdd, hAx, hAm⟩ := C1
  obtain ⟨n, fo, ki, st, we, lo, rd, rc, rv, sh, sla, sle, bg, tr, fa, n2, go, kj, sj, wj, lj, ti, ra, rch, q0, q1, q2, q3, fk, fc, hd, hB, hPx, hPm⟩ := hI
  obtain ⟨hn, hfo, hki, hst, hwe, hlo, hrd, hrc, hrv, hsla, hsle⟩ := id hB
  have hbA : ¬ LwA s b := Nat.not_le.mpr hbl
  have hts : ∀ w ∈ wsL_law, w.before #[Value.ref b] s = true := fun w h => hts0 w (wsL_law_in w h)
  have hF : CallFix p m c cL_law 4 s _ wsL_law RL := ⟨hx, hb, hml, hown, hts⟩
  refine lv_aload_n hx hb dL_law_287 rfl (lv_at hl 1 rfl) ?_
  refine lv_aload_n hx hb dL_law_288 rfl (lv_at hl 0 rfl) ?_
  refine lv_iload_n hx hb dL_law_289 rfl (lv_at hl 3 rfl) ?_
  refine lv_iconst (v := nI 1) hx hb dL_law_290 (by decide) ?_
  refine xaddN hx hb dL_law_291 ?_
  refine xsld hx hb hX hbl hbA hS (i + 1) rfl (by omega) hL dL_law_292 ?_
  refine lv_aload_n hx hb dL_law_293 rfl (lv_at hl 0 rfl) ?_
  refine lv_iload_n hx hb dL_law_294 rfl (lv_at hl 3 rfl) ?_
  refine lv_iconst (v := nI 2) hx hb dL_law_295 (by decide) ?_
  refine xaddN hx hb dL_law_296 ?_
  refine xsld hx hb hX hbl hbA hS (i + 2) rfl (by omega) hL dL_law_297 ?_
  refine lawI (va_runV (As := [.int (xs (i + 1)), .int (xs (i + 2))]) (rest := []) hF (c_X2_load l D cI cS adx sh sla sle (bigF bg) n fo ki st we lo n2 go kj sj wj lj ti rc rv rd tr fa (xs (i + 1)) (xs (i + 2)) ndx hn hwe) (cwV 2 hts gL_law_X2_load rfl rfl rfl hL_X2_load ⟨(Nat.le_of_ble_eq_true rfl), (Nat.le_of_ble_eq_true rfl)⟩) (PR.preV hG hPx (ci := 2) rfl rfl) rfl rfl hl.1 rfl (lv_room (Nat.le_of_ble_eq_true rfl)) dL_law_298 ⟨(Nat.le_of_ble_eq_true rfl), (Nat.le_of_ble_eq_true rfl)⟩) hS hAx hPm rfl hdd (fun r_0 u_0 H locs q_0 hPx hPm hS => ?_)
  try dsimp only at q_0 hPx
  have hPx : va_P D vwCl (wX cI cS adx sh sla sle (bigF bg) n fo ki st (S_load n we (xs (i + 1)) (xs (i + 2))) lo n2 go kj sj wj lj ti rc rv rd tr fa) H := hPx
  have e_0 : r_0 = A_load n we (xs (i + 1)) (xs (i + 2)) := q_0
  subst e_0
  refine lv_aload_n hx hb dL_law_301 rfl (lv_at hl 2 rfl) ?_
  refine lv_aload_n hx hb dL_law_302 rfl (lv_at hl 0 rfl) ?_
  refine lv_iload_n hx hb dL_law_303 rfl (lv_at hl 3 rfl) ?_
  refine lv_iconst (v := nI 1) hx hb dL_law_304 (by decide) ?_
  refine xaddN hx hb dL_law_305 ?_
  refine xsld hx hb hX hbl hbA hS (i + 1) rfl (by omega) hL dL_law_306 ?_
  refine lv_aload_n hx hb dL_law_307 rfl (lv_at hl 0 rfl) ?_
  refine lv_iload_n hx hb dL_law_308 rfl (lv_at hl 3 rfl) ?_
  refine lv_iconst (v := nI 2) hx hb dL_law_309 (by decide) ?_
  refine xaddN hx hb dL_law_310 ?_
  refine xsld hx hb hX hbl hbA hS (i + 2) rfl (by omega) hL dL_law_311 ?_
  refine lawI (va_runV (As := [.int (xs (i + 1)), .int (xs (i + 2))]) (rest := [.int (A_load n we (xs (i + 1)) (xs (i + 2)))]) hF (c_X3_load l D cI cS adm fa n fo ki st we lo ra rch q0 q1 q2 q3 fk fc rd rc rv sh sle sla bg hd tr (xs (i + 1)) (xs (i + 2)) ndm hn hwe) (cwV 2 hts gL_law_X3_load rfl rfl rfl hL_X3_load ⟨(Nat.le_of_ble_eq_true rfl), (Nat.le_of_ble_eq_true rfl)⟩) (PR.preV hG hPm (ci := 3) rfl rfl) rfl rfl hl.1 rfl (lv_room (Nat.le_of_ble_eq_true rfl)) dL_law_312 ⟨(Nat.le_of_ble_eq_true rfl), (Nat.le_of_ble_eq_true rfl)⟩) hS hAm hPx rfl (fun q h1 h2 => hdd q h2 h1) (fun r_1 u_1 H locs q_1 hPm hPx hS => ?_)
  try dsimp only at q_1 hPm
  have hPm : va_P D vwCl (wM cI adm fa n fo ki st (S_load n we (xs (i + 1)) (xs (i + 2))) lo ra rch q0 q1 q2 q3 fk fc rd rc rv sh sle sla bg hd tr) H := hPm
  have e_1 : r_1 = A_load n we (xs (i + 1)) (xs (i + 2)) := q_1
  subst e_1
  refine lv_icmp_eq (tgt := 1091) hx hb dL_law_315 (by decide) (fun c_9 => ?_) (fun c_9 => ?_)
  ·
    exact kk _ _ ⟨n, fo, ki, st, S_load n we (xs (i + 1)) (xs (i + 2)), lo, rd, rc, rv, sh, sla, sle, bg, tr, fa, n2, go, kj, sj, wj, lj, ti, ra, rch, q0, q1, q2, q3, fk, fc, hd, st_load hB, hPx, hPm⟩ hS
  · exact absurd rfl c_9
set_option maxHeartbeats 4000000 in
set_option maxRecDepth 100000 in
theorem law_c4 {p : Program} {l : Launch} {e : Env} {s : State} {m : MethodId} {below : List Frame} {meth : Method} {c : Code} {D : va_G} {cI cS : ClassId} {adx adm : Nat → Nat} {b L i : Nat} {xs : Nat → Int32} (hL : L ≤ 3072) (hi : i + 6 ≤ L) (C0 : lw_At p s m meth c b L xs) (C1 : LwC D cI cS s adx adm) {H : Heap} {locs : List Loc} (hI : LwS D cI cS adx adm H) (hS : va_S (LwA s) s.heap H locs) {ls : Array Slot} (hl : lv_has ls 4 [(0, .ref b), (1, .ref (adx 0)), (2, .ref (adm 0)), (3, .int (nI i))])
    (kk : ∀ (H : Heap) (locs : List Loc), LwS D cI cS adx adm H → va_S (LwA s) s.heap H locs → W p l e room_1 s m #[Value.ref b] below meth c H locs 600000 7302250 (lw_Z below #[Value.ref b] s) (F0 m 1091 ls [])) : W p l e room_1 s m #[Value.ref b] below meth c H locs 600000 7302250 (lw_Z below #[Value.ref b] s) (F0 m 320 ls []) := by
  obtain ⟨hx, hb, hr, hml, hown, hts0, hX, hbl, hlocks, hgv⟩ := id C0
  obtain ⟨hG, ndx, ndm, hdd, hAx, hAm⟩ := C1
  obtain ⟨n, fo, ki, st, we, lo, rd, rc, rv, sh, sla, sle, bg, tr, fa, n2, go, kj, sj, wj, lj, ti, ra, rch, q0, q1, q2, q3, fk, fc, hd, hB, hPx, hPm⟩ := hI
  obtain ⟨hn, hfo, hki, hst, hwe, hlo, hrd, hrc, hrv, hsla, hsle⟩ := id hB
  have hbA : ¬ LwA s b := Nat.not_le.mpr hbl
  have hts : ∀ w ∈ wsL_law, w.before #[Value.ref b] s = true := fun w h => hts0 w (wsL_law_in w h)
  have hF : CallFix p m c cL_law 4 s _ wsL_law RL := ⟨hx, hb, hml, hown, hts⟩
  refine lv_aload_n hx hb dL_law_320 rfl (lv_at hl 1 rfl) ?_
  refine lv_aload_n hx hb dL_law_321 rfl (lv_at hl 0 rfl) ?_
  refine lv_iload_n hx hb dL_law_322 rfl (lv_at hl 3 rfl) ?_
  refine lv_iconst (v := nI 1) hx hb dL_law_323 (by decide) ?_
  refine xaddN hx hb dL_law_324 ?_
  refine xsld hx hb hX hbl hbA hS (i + 1) rfl (by omega) hL dL_law_325 ?_
  refine xrd (va_runV (As := [.int (xs (i + 1))]) (rest := []) hF (c_X2_poll l D cI cS adx sh sla sle (bigF bg) n fo ki st we lo n2 go kj sj wj lj ti rc rv rd tr fa (xs (i + 1)) hn hfo hki hwe hst hlo) (cwV 1 hts gL_law_X2_poll rfl rfl rfl hL_X2_poll ⟨(Nat.le_of_ble_eq_true rfl), (Nat.le_of_ble_eq_true rfl)⟩) (PR.preV hG hPx (ci := 2) rfl rfl) rfl rfl hl.1 rfl (lv_room (Nat.le_of_ble_eq_true rfl)) dL_law_326 ⟨(Nat.le_of_ble_eq_true rfl), (Nat.le_of_ble_eq_true rfl)⟩) ?_
  refine lv_aload_n hx hb dL_law_329 rfl (lv_at hl 2 rfl) ?_
  refine lv_aload_n hx hb dL_law_330 rfl (lv_at hl 0 rfl) ?_
  refine lv_iload_n hx hb dL_law_331 rfl (lv_at hl 3 rfl) ?_
  refine lv_iconst (v := nI 1) hx hb dL_law_332 (by decide) ?_
  refine xaddN hx hb dL_law_333 ?_
  refine xsld hx hb hX hbl hbA hS (i + 1) rfl (by omega) hL dL_law_334 ?_
  refine xrd (va_runV (As := [.int (xs (i + 1))]) (rest := [.int (A_poll n fo ki st we lo (xs (i + 1)))]) hF (c_X3_poll l D cI cS adm fa n fo ki st we lo ra rch q0 q1 q2 q3 fk fc rd rc rv sh sle sla bg hd tr (xs (i + 1)) hn hfo hki hwe hst hlo) (cwV 1 hts gL_law_X3_poll rfl rfl rfl hL_X3_poll ⟨(Nat.le_of_ble_eq_true rfl), (Nat.le_of_ble_eq_true rfl)⟩) (PR.preV hG hPm (ci := 3) rfl rfl) rfl rfl hl.1 rfl (lv_room (Nat.le_of_ble_eq_true rfl)) dL_law_335 ⟨(Nat.le_of_ble_eq_true rfl), (Nat.le_of_ble_eq_true rfl)⟩) ?_
  refine lv_icmp_eq (tgt := 1091) hx hb dL_law_338 (by decide) (fun c_9 => ?_) (fun c_9 => ?_)
  ·
    exact kk _ _ ⟨n, fo, ki, st, we, lo, rd, rc, rv, sh, sla, sle, bg, tr, fa, n2, go, kj, sj, wj, lj, ti, ra, rch, q0, q1, q2, q3, fk, fc, hd, hB, hPx, hPm⟩ hS
  · exact absurd rfl c_9
set_option maxHeartbeats 4000000 in
set_option maxRecDepth 100000 in
theorem law_c5 {p : Program} {l : Launch} {e : Env} {s : State} {m : MethodId} {below : List Frame} {meth : Method} {c : Code} {D : va_G} {cI cS : ClassId} {adx adm : Nat → Nat} {b L i : Nat} {xs : Nat → Int32} (hL : L ≤ 3072) (hi : i + 6 ≤ L) (C0 : lw_At p s m meth c b L xs) (C1 : LwC D cI cS s adx adm) {H : Heap} {locs : List Loc} (hI : LwS D cI cS adx adm H) (hS : va_S (LwA s) s.heap H locs) {ls : Array Slot} (hl : lv_has ls 4 [(0, .ref b), (1, .ref (adx 0)), (2, .ref (adm 0)), (3, .int (nI i))])
    (kk : ∀ (H : Heap) (locs : List Loc), LwS D cI cS adx adm H → va_S (LwA s) s.heap H locs → W p l e room_1 s m #[Value.ref b] below meth c H locs 600000 7302250 (lw_Z below #[Value.ref b] s) (F0 m 1091 ls [])) : W p l e room_1 s m #[Value.ref b] below meth c H locs 600000 7302250 (lw_Z below #[Value.ref b] s) (F0 m 343 ls []) := by
  obtain ⟨hx, hb, hr, hml, hown, hts0, hX, hbl, hlocks, hgv⟩ := id C0
  obtain ⟨hG, ndx, ndm, hdd, hAx, hAm⟩ := C1
  obtain ⟨n, fo, ki, st, we, lo, rd, rc, rv, sh, sla, sle, bg, tr, fa, n2, go, kj, sj, wj, lj, ti, ra, rch, q0, q1, q2, q3, fk, fc, hd, hB, hPx, hPm⟩ := hI
  obtain ⟨hn, hfo, hki, hst, hwe, hlo, hrd, hrc, hrv, hsla, hsle⟩ := id hB
  have hbA : ¬ LwA s b := Nat.not_le.mpr hbl
  have hts : ∀ w ∈ wsL_law, w.before #[Value.ref b] s = true := fun w h => hts0 w (wsL_law_in w h)
  have hF : CallFix p m c cL_law 4 s _ wsL_law RL := ⟨hx, hb, hml, hown, hts⟩
  refine lv_aload_n hx hb dL_law_343 rfl (lv_at hl 1 rfl) ?_
  refine lv_aload_n hx hb dL_law_344 rfl (lv_at hl 0 rfl) ?_
  refine lv_iload_n hx hb dL_law_345 rfl (lv_at hl 3 rfl) ?_
  refine lv_iconst (v := nI 1) hx hb dL_law_346 (by decide) ?_
  refine xaddN hx hb dL_law_347 ?_
  refine xsld hx hb hX hbl hbA hS (i + 1) rfl (by omega) hL dL_law_348 ?_
  refine lv_aload_n hx hb dL_law_349 rfl (lv_at hl 0 rfl) ?_
  refine lv_iload_n hx hb dL_law_350 rfl (lv_at hl 3 rfl) ?_
  refine lv_iconst (v := nI 2) hx hb dL_law_351 (by decide) ?_
  refine xaddN hx hb dL_law_352 ?_
  refine xsld hx hb hX hbl hbA hS (i + 2) rfl (by omega) hL dL_law_353 ?_
  refine lawI (va_runV (As := [.int (xs (i + 1)), .int (xs (i + 2))]) (rest := []) hF (c_X2_turn l D cI cS adx sh sla sle (bigF bg) n fo ki st we lo n2 go kj sj wj lj ti rc rv rd tr fa (xs (i + 1)) (xs (i + 2)) ndx hn hfo hlo) (cwV 2 hts gL_law_X2_turn rfl rfl rfl hL_X2_turn ⟨(Nat.le_of_ble_eq_true rfl), (Nat.le_of_ble_eq_true rfl)⟩) (PR.preV hG hPx (ci := 2) rfl rfl) rfl rfl hl.1 rfl (lv_room (Nat.le_of_ble_eq_true rfl)) dL_law_354 ⟨(Nat.le_of_ble_eq_true rfl), (Nat.le_of_ble_eq_true rfl)⟩) hS hAx hPm rfl hdd (fun r_0 u_0 H locs q_0 hPx hPm hS => ?_)
  try dsimp only at q_0 hPx
  have hPx : va_P D vwCl (wX cI cS adx sh sla sle (bigF bg) n fo ki st we (S_turn n fo lo (xs (i + 1)) (xs (i + 2))) n2 go kj sj wj lj ti rc rv rd tr fa) H := hPx
  have e_0 : r_0 = A_turn n fo lo (xs (i + 1)) (xs (i + 2)) := q_0
  subst e_0
  refine lv_aload_n hx hb dL_law_357 rfl (lv_at hl 2 rfl) ?_
  refine lv_aload_n hx hb dL_law_358 rfl (lv_at hl 0 rfl) ?_
  refine lv_iload_n hx hb dL_law_359 rfl (lv_at hl 3 rfl) ?_
  refine lv_iconst (v := nI 1) hx hb dL_law_360 (by decide) ?_
  refine xaddN hx hb dL_law_361 ?_
  refine xsld hx hb hX hbl hbA hS (i + 1) rfl (by omega) hL dL_law_362 ?_
  refine lv_aload_n hx hb dL_law_363 rfl (lv_at hl 0 rfl) ?_
  refine lv_iload_n hx hb dL_law_364 rfl (lv_at hl 3 rfl) ?_
  refine lv_iconst (v := nI 2) hx hb dL_law_365 (by decide) ?_
  refine xaddN hx hb dL_law_366 ?_
  refine xsld hx hb hX hbl hbA hS (i + 2) rfl (by omega) hL dL_law_367 ?_
  refine lawI (va_runV (As := [.int (xs (i + 1)), .int (xs (i + 2))]) (rest := [.int (A_turn n fo lo (xs (i + 1)) (xs (i + 2)))]) hF (c_X3_turn l D cI cS adm fa n fo ki st we lo ra rch q0 q1 q2 q3 fk fc rd rc rv sh sle sla bg hd tr (xs (i + 1)) (xs (i + 2)) ndm hn hfo hlo) (cwV 2 hts gL_law_X3_turn rfl rfl rfl hL_X3_turn ⟨(Nat.le_of_ble_eq_true rfl), (Nat.le_of_ble_eq_true rfl)⟩) (PR.preV hG hPm (ci := 3) rfl rfl) rfl rfl hl.1 rfl (lv_room (Nat.le_of_ble_eq_true rfl)) dL_law_368 ⟨(Nat.le_of_ble_eq_true rfl), (Nat.le_of_ble_eq_true rfl)⟩) hS hAm hPx rfl (fun q h1 h2 => hdd q h2 h1) (fun r_1 u_1 H locs q_1 hPm hPx hS => ?_)
  try dsimp only at q_1 hPm
  have hPm : va_P D vwCl (wM cI adm fa n fo ki st we (S_turn n fo lo (xs (i + 1)) (xs (i + 2))) ra rch q0 q1 q2 q3 fk fc rd rc rv sh sle sla bg hd tr) H := hPm
  have e_1 : r_1 = A_turn n fo lo (xs (i + 1)) (xs (i + 2)) := q_1
  subst e_1
  refine lv_icmp_eq (tgt := 1091) hx hb dL_law_371 (by decide) (fun c_9 => ?_) (fun c_9 => ?_)
  ·
    exact kk _ _ ⟨n, fo, ki, st, we, S_turn n fo lo (xs (i + 1)) (xs (i + 2)), rd, rc, rv, sh, sla, sle, bg, tr, fa, n2, go, kj, sj, wj, lj, ti, ra, rch, q0, q1, q2, q3, fk, fc, hd, st_turn hB, hPx, hPm⟩ hS
  · exact absurd rfl c_9
set_option maxHeartbeats 4000000 in
set_option maxRecDepth 100000 in
theorem law_c6 {p : Program} {l : Launch} {e : Env} {s : State} {m : MethodId} {below : List Frame} {meth : Method} {c : Code} {D : va_G} {cI cS : ClassId} {adx adm : Nat → Nat} {b L i : Nat} {xs : Nat → Int32} (hL : L ≤ 3072) (hi : i + 6 ≤ L) (C0 : lw_At p s m meth c b L xs) (C1 : LwC D cI cS s adx adm) {H : Heap} {locs : List Loc} (hI : LwS D cI cS adx adm H) (hS : va_S (LwA s) s.heap H locs) {ls : Array Slot} (hl : lv_has ls 4 [(0, .ref b), (1, .ref (adx 0)), (2, .ref (adm 0)), (3, .int (nI i))])
    (kk : ∀ (H : Heap) (locs : List Loc), LwS D cI cS adx adm H → va_S (LwA s) s.heap H locs → W p l e room_1 s m #[Value.ref b] below meth c H locs 600000 7302250 (lw_Z below #[Value.ref b] s) (F0 m 1091 ls [])) : W p l e room_1 s m #[Value.ref b] below meth c H locs 600000 7302250 (lw_Z below #[Value.ref b] s) (F0 m 376 ls []) := by
  obtain ⟨hx, hb, hr, hml, hown, hts0, hX, hbl, hlocks, hgv⟩ := id C0
  obtain ⟨hG, ndx, ndm, hdd, hAx, hAm⟩ := C1
  obtain ⟨n, fo, ki, st, we, lo, rd, rc, rv, sh, sla, sle, bg, tr, fa, n2, go, kj, sj, wj, lj, ti, ra, rch, q0, q1, q2, q3, fk, fc, hd, hB, hPx, hPm⟩ := hI
  obtain ⟨hn, hfo, hki, hst, hwe, hlo, hrd, hrc, hrv, hsla, hsle⟩ := id hB
  have hbA : ¬ LwA s b := Nat.not_le.mpr hbl
  have hts : ∀ w ∈ wsL_law, w.before #[Value.ref b] s = true := fun w h => hts0 w (wsL_law_in w h)
  have hF : CallFix p m c cL_law 4 s _ wsL_law RL := ⟨hx, hb, hml, hown, hts⟩
  refine lv_aload_n hx hb dL_law_376 rfl (lv_at hl 1 rfl) ?_
  refine lv_aload_n hx hb dL_law_377 rfl (lv_at hl 0 rfl) ?_
  refine lv_iload_n hx hb dL_law_378 rfl (lv_at hl 3 rfl) ?_
  refine lv_iconst (v := nI 1) hx hb dL_law_379 (by decide) ?_
  refine xaddN hx hb dL_law_380 ?_
  refine xsld hx hb hX hbl hbA hS (i + 1) rfl (by omega) hL dL_law_381 ?_
  refine lv_aload_n hx hb dL_law_382 rfl (lv_at hl 0 rfl) ?_
  refine lv_iload_n hx hb dL_law_383 rfl (lv_at hl 3 rfl) ?_
  refine lv_iconst (v := nI 2) hx hb dL_law_384 (by decide) ?_
  refine xaddN hx hb dL_law_385 ?_
  refine xsld hx hb hX hbl hbA hS (i + 2) rfl (by omega) hL dL_law_386 ?_
  refine lawI (va_runV (As := [.int (xs (i + 1)), .int (xs (i + 2))]) (rest := []) hF (c_X2_gust l D cI cS adx sh sla sle (bigF bg) n fo ki st we lo n2 go kj sj wj lj ti rc rv rd tr fa (xs (i + 1)) (xs (i + 2)) ndx hn hfo hwe hlo) (cwV 2 hts gL_law_X2_gust rfl rfl rfl hL_X2_gust ⟨(Nat.le_of_ble_eq_true rfl), (Nat.le_of_ble_eq_true rfl)⟩) (PR.preV hG hPx (ci := 2) rfl rfl) rfl rfl hl.1 rfl (lv_room (Nat.le_of_ble_eq_true rfl)) dL_law_387 ⟨(Nat.le_of_ble_eq_true rfl), (Nat.le_of_ble_eq_true rfl)⟩) hS hAx hPm rfl hdd (fun r_0 u_0 H locs q_0 hPx hPm hS => ?_)
  try dsimp only at q_0 hPx
  have hPx : va_P D vwCl (wX cI cS adx sh sla sle (bigF bg) n fo ki st we (S_gust n fo we lo (xs (i + 1)) (xs (i + 2))) n2 go kj sj wj lj ti rc rv rd tr fa) H := hPx
  have e_0 : r_0 = A_gust n fo we lo (xs (i + 1)) (xs (i + 2)) := q_0
  subst e_0
  refine lv_aload_n hx hb dL_law_390 rfl (lv_at hl 2 rfl) ?_
  refine lv_aload_n hx hb dL_law_391 rfl (lv_at hl 0 rfl) ?_
  refine lv_iload_n hx hb dL_law_392 rfl (lv_at hl 3 rfl) ?_
  refine lv_iconst (v := nI 1) hx hb dL_law_393 (by decide) ?_
  refine xaddN hx hb dL_law_394 ?_
  refine xsld hx hb hX hbl hbA hS (i + 1) rfl (by omega) hL dL_law_395 ?_
  refine lv_aload_n hx hb dL_law_396 rfl (lv_at hl 0 rfl) ?_
  refine lv_iload_n hx hb dL_law_397 rfl (lv_at hl 3 rfl) ?_
  refine lv_iconst (v := nI 2) hx hb dL_law_398 (by decide) ?_
  refine xaddN hx hb dL_law_399 ?_
  refine xsld hx hb hX hbl hbA hS (i + 2) rfl (by omega) hL dL_law_400 ?_
  refine lawI (va_runV (As := [.int (xs (i + 1)), .int (xs (i + 2))]) (rest := [.int (A_gust n fo we lo (xs (i + 1)) (xs (i + 2)))]) hF (c_X3_gust l D cI cS adm fa n fo ki st we lo ra rch q0 q1 q2 q3 fk fc rd rc rv sh sle sla bg hd tr (xs (i + 1)) (xs (i + 2)) ndm hn hfo hwe hlo) (cwV 2 hts gL_law_X3_gust rfl rfl rfl hL_X3_gust ⟨(Nat.le_of_ble_eq_true rfl), (Nat.le_of_ble_eq_true rfl)⟩) (PR.preV hG hPm (ci := 3) rfl rfl) rfl rfl hl.1 rfl (lv_room (Nat.le_of_ble_eq_true rfl)) dL_law_401 ⟨(Nat.le_of_ble_eq_true rfl), (Nat.le_of_ble_eq_true rfl)⟩) hS hAm hPx rfl (fun q h1 h2 => hdd q h2 h1) (fun r_1 u_1 H locs q_1 hPm hPx hS => ?_)
  try dsimp only at q_1 hPm
  have hPm : va_P D vwCl (wM cI adm fa n fo ki st we (S_gust n fo we lo (xs (i + 1)) (xs (i + 2))) ra rch q0 q1 q2 q3 fk fc rd rc rv sh sle sla bg hd tr) H := hPm
  have e_1 : r_1 = A_gust n fo we lo (xs (i + 1)) (xs (i + 2)) := q_1
  subst e_1
  refine lv_icmp_eq (tgt := 1091) hx hb dL_law_404 (by decide) (fun c_9 => ?_) (fun c_9 => ?_)
  ·
    exact kk _ _ ⟨n, fo, ki, st, we, S_gust n fo we lo (xs (i + 1)) (xs (i + 2)), rd, rc, rv, sh, sla, sle, bg, tr, fa, n2, go, kj, sj, wj, lj, ti, ra, rch, q0, q1, q2, q3, fk, fc, hd, st_gust hB, hPx, hPm⟩ hS
  · exact absurd rfl c_9
set_option maxHeartbeats 4000000 in
set_option maxRecDepth 100000 in
theorem law_c7 {p : Program} {l : Launch} {e : Env} {s : State} {m : MethodId} {below : List Frame} {meth : Method} {c : Code} {D : va_G} {cI cS : ClassId} {adx adm : Nat → Nat} {b L i : Nat} {xs : Nat → Int32} (hL : L ≤ 3072) (hi : i + 6 ≤ L) (C0 : lw_At p s m meth c b L xs) (C1 : LwC D cI cS s adx adm) {H : Heap} {locs : List Loc} (hI : LwS D cI cS adx adm H) (hS : va_S (LwA s) s.heap H locs) {ls : Array Slot} (hl : lv_has ls 4 [(0, .ref b), (1, .ref (adx 0)), (2, .ref (adm 0)), (3, .int (nI i))])
    (kk : ∀ (H : Heap) (locs : List Loc), LwS D cI cS adx adm H → va_S (LwA s) s.heap H locs → W p l e room_1 s m #[Value.ref b] below meth c H locs 600000 7302250 (lw_Z below #[Value.ref b] s) (F0 m 1091 ls [])) : W p l e room_1 s m #[Value.ref b] below meth c H locs 600000 7302250 (lw_Z below #[Value.ref b] s) (F0 m 409 ls []) := by
  obtain ⟨hx, hb, hr, hml, hown, hts0, hX, hbl, hlocks, hgv⟩ := id C0
  obtain ⟨hG, ndx, ndm, hdd, hAx, hAm⟩ := C1
  obtain ⟨n, fo, ki, st, we, lo, rd, rc, rv, sh, sla, sle, bg, tr, fa, n2, go, kj, sj, wj, lj, ti, ra, rch, q0, q1, q2, q3, fk, fc, hd, hB, hPx, hPm⟩ := hI
  obtain ⟨hn, hfo, hki, hst, hwe, hlo, hrd, hrc, hrv, hsla, hsle⟩ := id hB
  have hbA : ¬ LwA s b := Nat.not_le.mpr hbl
  have hts : ∀ w ∈ wsL_law, w.before #[Value.ref b] s = true := fun w h => hts0 w (wsL_law_in w h)
  have hF : CallFix p m c cL_law 4 s _ wsL_law RL := ⟨hx, hb, hml, hown, hts⟩
  refine lv_aload_n hx hb dL_law_409 rfl (lv_at hl 1 rfl) ?_
  refine lawI (va_runV (As := []) (rest := []) hF (c_X2_rain l D cI cS adx sh sla sle (bigF bg) n fo ki st we lo n2 go kj sj wj lj ti rc rv rd tr fa ndx hn hfo) (cwV 0 hts gL_law_X2_rain rfl rfl rfl hL_X2_rain ⟨(Nat.le_of_ble_eq_true rfl), (Nat.le_of_ble_eq_true rfl)⟩) (PR.preV hG hPx (ci := 2) rfl rfl) rfl rfl hl.1 rfl (lv_room (Nat.le_of_ble_eq_true rfl)) dL_law_410 ⟨(Nat.le_of_ble_eq_true rfl), (Nat.le_of_ble_eq_true rfl)⟩) hS hAx hPm rfl hdd (fun r_0 u_0 H locs q_0 hPx hPm hS => ?_)
  try dsimp only at q_0 hPx
  have hPx : va_P D vwCl (wX cI cS adx sh sla sle (bigF bg) n (S_rain n fo) ki st we lo n2 go kj sj wj lj ti rc rv rd tr fa) H := hPx
  have e_0 : r_0 = A_rain n fo := q_0
  subst e_0
  refine lv_aload_n hx hb dL_law_413 rfl (lv_at hl 2 rfl) ?_
  refine lawI (va_runV (As := []) (rest := [.int (A_rain n fo)]) hF (c_X3_rain l D cI cS adm fa n fo ki st we lo ra rch q0 q1 q2 q3 fk fc rd rc rv sh sle sla bg hd tr ndm hn hfo) (cwV 0 hts gL_law_X3_rain rfl rfl rfl hL_X3_rain ⟨(Nat.le_of_ble_eq_true rfl), (Nat.le_of_ble_eq_true rfl)⟩) (PR.preV hG hPm (ci := 3) rfl rfl) rfl rfl hl.1 rfl (lv_room (Nat.le_of_ble_eq_true rfl)) dL_law_414 ⟨(Nat.le_of_ble_eq_true rfl), (Nat.le_of_ble_eq_true rfl)⟩) hS hAm hPx rfl (fun q h1 h2 => hdd q h2 h1) (fun r_1 u_1 H locs q_1 hPm hPx hS => ?_)
  try dsimp only at q_1 hPm
  have hPm : va_P D vwCl (wM cI adm fa n (S_rain n fo) ki st we lo ra rch q0 q1 q2 q3 fk fc rd rc rv sh sle sla bg hd tr) H := hPm
  have e_1 : r_1 = A_rain n fo := q_1
  subst e_1
  refine lv_icmp_eq (tgt := 1091) hx hb dL_law_417 (by decide) (fun c_9 => ?_) (fun c_9 => ?_)
  ·
    exact kk _ _ ⟨n, S_rain n fo, ki, st, we, lo, rd, rc, rv, sh, sla, sle, bg, tr, fa, n2, go, kj, sj, wj, lj, ti, ra, rch, q0, q1, q2, q3, fk, fc, hd, st_rain hB, hPx, hPm⟩ hS
  · exact absurd rfl c_9
set_option maxHeartbeats 4000000 in
set_option maxRecDepth 100000 in
theorem law_c8 {p : Program} {l : Launch} {e : Env} {s : State} {m : MethodId} {below : List Frame} {meth : Method} {c : Code} {D : va_G} {cI cS : ClassId} {adx adm : Nat → Nat} {b L i : Nat} {xs : Nat → Int32} (hL : L ≤ 3072) (hi : i + 6 ≤ L) (C0 : lw_At p s m meth c b L xs) (C1 : LwC D cI cS s adx adm) {H : Heap} {locs : List Loc} (hI : LwS D cI cS adx adm H) (hS : va_S (LwA s) s.heap H locs) {ls : Array Slot} (hl : lv_has ls 4 [(0, .ref b), (1, .ref (adx 0)), (2, .ref (adm 0)), (3, .int (nI i))])
    (kk : ∀ (H : Heap) (locs : List Loc), LwS D cI cS adx adm H → va_S (LwA s) s.heap H locs → W p l e room_1 s m #[Value.ref b] below meth c H locs 600000 7302250 (lw_Z below #[Value.ref b] s) (F0 m 1091 ls [])) : W p l e room_1 s m #[Value.ref b] below meth c H locs 600000 7302250 (lw_Z below #[Value.ref b] s) (F0 m 422 ls []) := by
  obtain ⟨hx, hb, hr, hml, hown, hts0, hX, hbl, hlocks, hgv⟩ := id C0
  obtain ⟨hG, ndx, ndm, hdd, hAx, hAm⟩ := C1
  obtain ⟨n, fo, ki, st, we, lo, rd, rc, rv, sh, sla, sle, bg, tr, fa, n2, go, kj, sj, wj, lj, ti, ra, rch, q0, q1, q2, q3, fk, fc, hd, hB, hPx, hPm⟩ := hI
  obtain ⟨hn, hfo, hki, hst, hwe, hlo, hrd, hrc, hrv, hsla, hsle⟩ := id hB
  have hbA : ¬ LwA s b := Nat.not_le.mpr hbl
  have hts : ∀ w ∈ wsL_law, w.before #[Value.ref b] s = true := fun w h => hts0 w (wsL_law_in w h)
  have hF : CallFix p m c cL_law 4 s _ wsL_law RL := ⟨hx, hb, hml, hown, hts⟩
  refine lv_aload_n hx hb dL_law_422 rfl (lv_at hl 1 rfl) ?_
  refine lv_aload_n hx hb dL_law_423 rfl (lv_at hl 0 rfl) ?_
  refine lv_iload_n hx hb dL_law_424 rfl (lv_at hl 3 rfl) ?_
  refine lv_iconst (v := nI 1) hx hb dL_law_425 (by decide) ?_
  refine xaddN hx hb dL_law_426 ?_
  refine xsld hx hb hX hbl hbA hS (i + 1) rfl (by omega) hL dL_law_427 ?_
  refine lawI (va_runV (As := [.int (xs (i + 1))]) (rest := []) hF (c_X2_open l D cI cS adx sh sla sle (bigF bg) n fo ki st we lo n2 go kj sj wj lj ti rc rv rd tr fa (xs (i + 1)) ndx hn hfo) (cwV 1 hts gL_law_X2_open rfl rfl rfl hL_X2_open ⟨(Nat.le_of_ble_eq_true rfl), (Nat.le_of_ble_eq_true rfl)⟩) (PR.preV hG hPx (ci := 2) rfl rfl) rfl rfl hl.1 rfl (lv_room (Nat.le_of_ble_eq_true rfl)) dL_law_428 ⟨(Nat.le_of_ble_eq_true rfl), (Nat.le_of_ble_eq_true rfl)⟩) hS hAx hPm rfl hdd (fun r_0 u_0 H locs q_0 hPx hPm hS => ?_)
  try dsimp only at q_0 hPx
  have hPx : va_P D vwCl (wX cI cS adx sh sla sle (bigF bg) n (S_open n fo (xs (i + 1))) ki st we lo n2 go kj sj wj lj ti rc rv rd tr fa) H := hPx
  have e_0 : r_0 = A_open n fo (xs (i + 1)) := q_0
  subst e_0
  refine lv_aload_n hx hb dL_law_431 rfl (lv_at hl 2 rfl) ?_
  refine lv_aload_n hx hb dL_law_432 rfl (lv_at hl 0 rfl) ?_
  refine lv_iload_n hx hb dL_law_433 rfl (lv_at hl 3 rfl) ?_
  refine lv_iconst (v := nI 1) hx hb dL_law_434 (by decide) ?_
  refine xaddN hx hb dL_law_435 ?_
  refine xsld hx hb hX hbl hbA hS (i + 1) rfl (by omega) hL dL_law_436 ?_
  refine lawI (va_runV (As := [.int (xs (i + 1))]) (rest := [.int (A_open n fo (xs (i + 1)))]) hF (c_X3_open l D cI cS adm fa n fo ki st we lo ra rch q0 q1 q2 q3 fk fc rd rc rv sh sle sla bg hd tr (xs (i + 1)) ndm hn hfo) (cwV 1 hts gL_law_X3_open rfl rfl rfl hL_X3_open ⟨(Nat.le_of_ble_eq_true rfl), (Nat.le_of_ble_eq_true rfl)⟩) (PR.preV hG hPm (ci := 3) rfl rfl) rfl rfl hl.1 rfl (lv_room (Nat.le_of_ble_eq_true rfl)) dL_law_437 ⟨(Nat.le_of_ble_eq_true rfl), (Nat.le_of_ble_eq_true rfl)⟩) hS hAm hPx rfl (fun q h1 h2 => hdd q h2 h1) (fun r_1 u_1 H locs q_1 hPm hPx hS => ?_)
  try dsimp only at q_1 hPm
  have hPm : va_P D vwCl (wM cI adm fa n (S_open n fo (xs (i + 1))) ki st we lo ra rch q0 q1 q2 q3 fk fc rd rc rv sh sle sla bg hd tr) H := hPm
  have e_1 : r_1 = A_open n fo (xs (i + 1)) := q_1
  subst e_1
  refine lv_icmp_eq (tgt := 1091) hx hb dL_law_440 (by decide) (fun c_9 => ?_) (fun c_9 => ?_)
  ·
    exact kk _ _ ⟨n, S_open n fo (xs (i + 1)), ki, st, we, lo, rd, rc, rv, sh, sla, sle, bg, tr, fa, n2, go, kj, sj, wj, lj, ti, ra, rch, q0, q1, q2, q3, fk, fc, hd, st_open hB, hPx, hPm⟩ hS
  · exact absurd rfl c_9
set_option maxHeartbeats 4000000 in
set_option maxRecDepth 100000 in
theorem law_c9 {p : Program} {l : Launch} {e : Env} {s : State} {m : MethodId} {below : List Frame} {meth : Method} {c : Code} {D : va_G} {cI cS : ClassId} {adx adm : Nat → Nat} {b L i : Nat} {xs : Nat → Int32} (hL : L ≤ 3072) (hi : i + 6 ≤ L) (C0 : lw_At p s m meth c b L xs) (C1 : LwC D cI cS s adx adm) {H : Heap} {locs : List Loc} (hI : LwS D cI cS adx adm H) (hS : va_S (LwA s) s.heap H locs) {ls : Array Slot} (hl : lv_has ls 4 [(0, .ref b), (1, .ref (adx 0)), (2, .ref (adm 0)), (3, .int (nI i))])
    (kk : ∀ (H : Heap) (locs : List Loc), LwS D cI cS adx adm H → va_S (LwA s) s.heap H locs → W p l e room_1 s m #[Value.ref b] below meth c H locs 600000 7302250 (lw_Z below #[Value.ref b] s) (F0 m 1091 ls [])) : W p l e room_1 s m #[Value.ref b] below meth c H locs 600000 7302250 (lw_Z below #[Value.ref b] s) (F0 m 445 ls []) := by
  obtain ⟨hx, hb, hr, hml, hown, hts0, hX, hbl, hlocks, hgv⟩ := id C0
  obtain ⟨hG, ndx, ndm, hdd, hAx, hAm⟩ := C1
  obtain ⟨n, fo, ki, st, we, lo, rd, rc, rv, sh, sla, sle, bg, tr, fa, n2, go, kj, sj, wj, lj, ti, ra, rch, q0, q1, q2, q3, fk, fc, hd, hB, hPx, hPm⟩ := hI
  obtain ⟨hn, hfo, hki, hst, hwe, hlo, hrd, hrc, hrv, hsla, hsle⟩ := id hB
  have hbA : ¬ LwA s b := Nat.not_le.mpr hbl
  have hts : ∀ w ∈ wsL_law, w.before #[Value.ref b] s = true := fun w h => hts0 w (wsL_law_in w h)
  have hF : CallFix p m c cL_law 4 s _ wsL_law RL := ⟨hx, hb, hml, hown, hts⟩
  refine lv_aload_n hx hb dL_law_445 rfl (lv_at hl 1 rfl) ?_
  refine lv_aload_n hx hb dL_law_446 rfl (lv_at hl 0 rfl) ?_
  refine lv_iload_n hx hb dL_law_447 rfl (lv_at hl 3 rfl) ?_
  refine lv_iconst (v := nI 1) hx hb dL_law_448 (by decide) ?_
  refine xaddN hx hb dL_law_449 ?_
  refine xsld hx hb hX hbl hbA hS (i + 1) rfl (by omega) hL dL_law_450 ?_
  refine lv_aload_n hx hb dL_law_451 rfl (lv_at hl 0 rfl) ?_
  refine lv_iload_n hx hb dL_law_452 rfl (lv_at hl 3 rfl) ?_
  refine lv_iconst (v := nI 2) hx hb dL_law_453 (by decide) ?_
  refine xaddN hx hb dL_law_454 ?_
  refine xsld hx hb hX hbl hbA hS (i + 2) rfl (by omega) hL dL_law_455 ?_
  refine lv_aload_n hx hb dL_law_456 rfl (lv_at hl 0 rfl) ?_
  refine lv_iload_n hx hb dL_law_457 rfl (lv_at hl 3 rfl) ?_
  refine lv_iconst (v := nI 3) hx hb dL_law_458 (by decide) ?_
  refine xaddN hx hb dL_law_459 ?_
  refine xsld hx hb hX hbl hbA hS (i + 3) rfl (by omega) hL dL_law_460 ?_
  refine lv_aload_n hx hb dL_law_461 rfl (lv_at hl 0 rfl) ?_
  refine lv_iload_n hx hb dL_law_462 rfl (lv_at hl 3 rfl) ?_
  refine lv_iconst (v := nI 4) hx hb dL_law_463 (by decide) ?_
  refine xaddN hx hb dL_law_464 ?_
  refine xsld hx hb hX hbl hbA hS (i + 4) rfl (by omega) hL dL_law_465 ?_
  refine lv_aload_n hx hb dL_law_466 rfl (lv_at hl 0 rfl) ?_
  refine lv_iload_n hx hb dL_law_467 rfl (lv_at hl 3 rfl) ?_
  refine lv_iconst (v := nI 5) hx hb dL_law_468 (by decide) ?_
  refine xaddN hx hb dL_law_469 ?_
  refine xsld hx hb hX hbl hbA hS (i + 5) rfl (by omega) hL dL_law_470 ?_
  refine lawI (va_runV (As := [.int (xs (i + 1)), .int (xs (i + 2)), .int (xs (i + 3)), .int (xs (i + 4)), .int (xs (i + 5))]) (rest := []) hF (c_X2_day l D cI cS adx sh sla sle (bigF bg) n fo ki st we lo n2 go kj sj wj lj ti rc rv rd tr fa (xs (i + 1)) (xs (i + 2)) (xs (i + 3)) (xs (i + 4)) (xs (i + 5)) ndx hn hfo hki hwe hst hlo hsla hsle) (cwV 5 hts gL_law_X2_day rfl rfl rfl hL_X2_day ⟨(Nat.le_of_ble_eq_true rfl), (Nat.le_of_ble_eq_true rfl)⟩) (PR.preV hG hPx (ci := 2) rfl rfl) rfl rfl hl.1 rfl (lv_room (Nat.le_of_ble_eq_true rfl)) dL_law_471 ⟨(Nat.le_of_ble_eq_true rfl), (Nat.le_of_ble_eq_true rfl)⟩) hS hAx hPm rfl hdd (fun r_0 u_0 H locs q_0 hPx hPm hS => ?_)
  obtain ⟨n20_0, go0_0, kj0_0, sj0_0, wj0_0, lj0_0⟩ := u_0
  try dsimp only at q_0 hPx
  have hPx : va_P D vwCl (wX cI cS adx sh sla sle (bigF bg) n fo ki st we lo n20_0 go0_0 kj0_0 sj0_0 wj0_0 lj0_0 ti rc rv rd tr (S_day sh sla sle n (xs (i + 1)) (xs (i + 2)) (xs (i + 3)) (xs (i + 4)) (xs (i + 5)))) H := hPx
  have e_0 : r_0 = A_day sh sla sle (bigF bg) n fo ki st we lo (xs (i + 1)) (xs (i + 2)) (xs (i + 3)) (xs (i + 4)) (xs (i + 5)) := q_0
  subst e_0
  refine lv_aload_n hx hb dL_law_474 rfl (lv_at hl 2 rfl) ?_
  refine lv_aload_n hx hb dL_law_475 rfl (lv_at hl 0 rfl) ?_
  refine lv_iload_n hx hb dL_law_476 rfl (lv_at hl 3 rfl) ?_
  refine lv_iconst (v := nI 1) hx hb dL_law_477 (by decide) ?_
  refine xaddN hx hb dL_law_478 ?_
  refine xsld hx hb hX hbl hbA hS (i + 1) rfl (by omega) hL dL_law_479 ?_
  refine lv_aload_n hx hb dL_law_480 rfl (lv_at hl 0 rfl) ?_
  refine lv_iload_n hx hb dL_law_481 rfl (lv_at hl 3 rfl) ?_
  refine lv_iconst (v := nI 2) hx hb dL_law_482 (by decide) ?_
  refine xaddN hx hb dL_law_483 ?_
  refine xsld hx hb hX hbl hbA hS (i + 2) rfl (by omega) hL dL_law_484 ?_
  refine lv_aload_n hx hb dL_law_485 rfl (lv_at hl 0 rfl) ?_
  refine lv_iload_n hx hb dL_law_486 rfl (lv_at hl 3 rfl) ?_
  refine lv_iconst (v := nI 3) hx hb dL_law_487 (by decide) ?_
  refine xaddN hx hb dL_law_488 ?_
  refine xsld hx hb hX hbl hbA hS (i + 3) rfl (by omega) hL dL_law_489 ?_
  refine lv_aload_n hx hb dL_law_490 rfl (lv_at hl 0 rfl) ?_
  refine lv_iload_n hx hb dL_law_491 rfl (lv_at hl 3 rfl) ?_
  refine lv_iconst (v := nI 4) hx hb dL_law_492 (by decide) ?_
  refine xaddN hx hb dL_law_493 ?_
  refine xsld hx hb hX hbl hbA hS (i + 4) rfl (by omega) hL dL_law_494 ?_
  refine lv_aload_n hx hb dL_law_495 rfl (lv_at hl 0 rfl) ?_
  refine lv_iload_n hx hb dL_law_496 rfl (lv_at hl 3 rfl) ?_
  refine lv_iconst (v := nI 5) hx hb dL_law_497 (by decide) ?_
  refine xaddN hx hb dL_law_498 ?_
  refine xsld hx hb hX hbl hbA hS (i + 5) rfl (by omega) hL dL_law_499 ?_
  refine lawI (va_runV (As := [.int (xs (i + 1)), .int (xs (i + 2)), .int (xs (i + 3)), .int (xs (i + 4)), .int (xs (i + 5))]) (rest := [.int (A_day sh sla sle (bigF bg) n fo ki st we lo (xs (i + 1)) (xs (i + 2)) (xs (i + 3)) (xs (i + 4)) (xs (i + 5)))]) hF (c_X3_day l D cI cS adm fa n fo ki st we lo ra rch q0 q1 q2 q3 fk fc rd rc rv sh sle sla bg hd tr (xs (i + 1)) (xs (i + 2)) (xs (i + 3)) (xs (i + 4)) (xs (i + 5)) ndm hn hfo hki hwe hst hlo hsla hsle) (cwV 5 hts gL_law_X3_day rfl rfl rfl hL_X3_day ⟨(Nat.le_of_ble_eq_true rfl), (Nat.le_of_ble_eq_true rfl)⟩) (PR.preV hG hPm (ci := 3) rfl rfl) rfl rfl hl.1 rfl (lv_room (Nat.le_of_ble_eq_true rfl)) dL_law_500 ⟨(Nat.le_of_ble_eq_true rfl), (Nat.le_of_ble_eq_true rfl)⟩) hS hAm hPx rfl (fun q h1 h2 => hdd q h2 h1) (fun r_1 u_1 H locs q_1 hPm hPx hS => ?_)
  obtain ⟨fk0_1, fc0_1⟩ := u_1
  try dsimp only at q_1 hPm
  have hPm : va_P D vwCl (wM cI adm (S_day sh sla sle n (xs (i + 1)) (xs (i + 2)) (xs (i + 3)) (xs (i + 4)) (xs (i + 5))) n fo ki st we lo ra rch q0 q1 q2 q3 fk0_1 fc0_1 rd rc rv sh sle sla bg hd tr) H := hPm
  have e_1 : r_1 = A_day sh sla sle (bigF bg) n fo ki st we lo (xs (i + 1)) (xs (i + 2)) (xs (i + 3)) (xs (i + 4)) (xs (i + 5)) := q_1
  subst e_1
  refine lv_icmp_eq (tgt := 1091) hx hb dL_law_503 (by decide) (fun c_9 => ?_) (fun c_9 => ?_)
  ·
    exact kk _ _ ⟨n, fo, ki, st, we, lo, rd, rc, rv, sh, sla, sle, bg, tr, S_day sh sla sle n (xs (i + 1)) (xs (i + 2)) (xs (i + 3)) (xs (i + 4)) (xs (i + 5)), n20_0, go0_0, kj0_0, sj0_0, wj0_0, lj0_0, ti, ra, rch, q0, q1, q2, q3, fk0_1, fc0_1, hd, hB, hPx, hPm⟩ hS
  · exact absurd rfl c_9
set_option maxHeartbeats 4000000 in
set_option maxRecDepth 100000 in
theorem law_c10 {p : Program} {l : Launch} {e : Env} {s : State} {m : MethodId} {below : List Frame} {meth : Method} {c : Code} {D : va_G} {cI cS : ClassId} {adx adm : Nat → Nat} {b L i : Nat} {xs : Nat → Int32} (hL : L ≤ 3072) (hi : i + 6 ≤ L) (C0 : lw_At p s m meth c b L xs) (C1 : LwC D cI cS s adx adm) {H : Heap} {locs : List Loc} (hI : LwS D cI cS adx adm H) (hS : va_S (LwA s) s.heap H locs) {ls : Array Slot} (hl : lv_has ls 4 [(0, .ref b), (1, .ref (adx 0)), (2, .ref (adm 0)), (3, .int (nI i))])
    (kk : ∀ (H : Heap) (locs : List Loc), LwS D cI cS adx adm H → va_S (LwA s) s.heap H locs → W p l e room_1 s m #[Value.ref b] below meth c H locs 600000 7302250 (lw_Z below #[Value.ref b] s) (F0 m 1091 ls [])) : W p l e room_1 s m #[Value.ref b] below meth c H locs 600000 7302250 (lw_Z below #[Value.ref b] s) (F0 m 508 ls []) := by
  obtain ⟨hx, hb, hr, hml, hown, hts0, hX, hbl, hlocks, hgv⟩ := id C0
  obtain ⟨hG, ndx, ndm, hdd, hAx, hAm⟩ := C1
  obtain ⟨n, fo, ki, st, we, lo, rd, rc, rv, sh, sla, sle, bg, tr, fa, n2, go, kj, sj, wj, lj, ti, ra, rch, q0, q1, q2, q3, fk, fc, hd, hB, hPx, hPm⟩ := hI
  obtain ⟨hn, hfo, hki, hst, hwe, hlo, hrd, hrc, hrv, hsla, hsle⟩ := id hB
  have hbA : ¬ LwA s b := Nat.not_le.mpr hbl
  have hts : ∀ w ∈ wsL_law, w.before #[Value.ref b] s = true := fun w h => hts0 w (wsL_law_in w h)
  have hF : CallFix p m c cL_law 4 s _ wsL_law RL := ⟨hx, hb, hml, hown, hts⟩
  refine lv_aload_n hx hb dL_law_508 rfl (lv_at hl 1 rfl) ?_
  refine lawI (va_runV (As := []) (rest := []) hF (c_X2_swing l D cI cS adx sh sla sle (bigF bg) n fo ki st we lo n2 go kj sj wj lj ti rc rv rd tr fa ndx hn hfo hki hwe hst hlo) (cwV 0 hts gL_law_X2_swing rfl rfl rfl hL_X2_swing ⟨(Nat.le_of_ble_eq_true rfl), (Nat.le_of_ble_eq_true rfl)⟩) (PR.preV hG hPx (ci := 2) rfl rfl) rfl rfl hl.1 rfl (lv_room (Nat.le_of_ble_eq_true rfl)) dL_law_509 ⟨(Nat.le_of_ble_eq_true rfl), (Nat.le_of_ble_eq_true rfl)⟩) hS hAx hPm rfl hdd (fun r_0 u_0 H locs q_0 hPx hPm hS => ?_)
  obtain ⟨n20_0, go0_0, kj0_0, sj0_0, wj0_0, lj0_0⟩ := u_0
  try dsimp only at q_0 hPx
  have hPx : va_P D vwCl (wX cI cS adx sh sla sle (bigF bg) n fo ki st we lo n20_0 go0_0 kj0_0 sj0_0 wj0_0 lj0_0 ti rc rv rd tr fa) H := hPx
  have e_0 : r_0 = A_swing n fo ki st we lo := q_0
  subst e_0
  refine lv_aload_n hx hb dL_law_512 rfl (lv_at hl 2 rfl) ?_
  refine lawI (va_runV (As := []) (rest := [.int (A_swing n fo ki st we lo)]) hF (c_X3_swing l D cI cS adm fa n fo ki st we lo ra rch q0 q1 q2 q3 fk fc rd rc rv sh sle sla bg hd tr ndm hn hfo hki hwe hst hlo) (cwV 0 hts gL_law_X3_swing rfl rfl rfl hL_X3_swing ⟨(Nat.le_of_ble_eq_true rfl), (Nat.le_of_ble_eq_true rfl)⟩) (PR.preV hG hPm (ci := 3) rfl rfl) rfl rfl hl.1 rfl (lv_room (Nat.le_of_ble_eq_true rfl)) dL_law_513 ⟨(Nat.le_of_ble_eq_true rfl), (Nat.le_of_ble_eq_true rfl)⟩) hS hAm hPx rfl (fun q h1 h2 => hdd q h2 h1) (fun r_1 u_1 H locs q_1 hPm hPx hS => ?_)
  obtain ⟨fk0_1, fc0_1⟩ := u_1
  try dsimp only at q_1 hPm
  have hPm : va_P D vwCl (wM cI adm fa n fo ki st we lo ra rch q0 q1 q2 q3 fk0_1 fc0_1 rd rc rv sh sle sla bg hd tr) H := hPm
  have e_1 : r_1 = A_swing n fo ki st we lo := q_1
  subst e_1
  refine lv_icmp_eq (tgt := 1091) hx hb dL_law_516 (by decide) (fun c_9 => ?_) (fun c_9 => ?_)
  ·
    exact kk _ _ ⟨n, fo, ki, st, we, lo, rd, rc, rv, sh, sla, sle, bg, tr, fa, n20_0, go0_0, kj0_0, sj0_0, wj0_0, lj0_0, ti, ra, rch, q0, q1, q2, q3, fk0_1, fc0_1, hd, hB, hPx, hPm⟩ hS
  · exact absurd rfl c_9
set_option maxHeartbeats 4000000 in
set_option maxRecDepth 100000 in
theorem law_c11 {p : Program} {l : Launch} {e : Env} {s : State} {m : MethodId} {below : List Frame} {meth : Method} {c : Code} {D : va_G} {cI cS : ClassId} {adx adm : Nat → Nat} {b L i : Nat} {xs : Nat → Int32} (hL : L ≤ 3072) (hi : i + 6 ≤ L) (C0 : lw_At p s m meth c b L xs) (C1 : LwC D cI cS s adx adm) {H : Heap} {locs : List Loc} (hI : LwS D cI cS adx adm H) (hS : va_S (LwA s) s.heap H locs) {ls : Array Slot} (hl : lv_has ls 4 [(0, .ref b), (1, .ref (adx 0)), (2, .ref (adm 0)), (3, .int (nI i))])
    (kk : ∀ (H : Heap) (locs : List Loc), LwS D cI cS adx adm H → va_S (LwA s) s.heap H locs → W p l e room_1 s m #[Value.ref b] below meth c H locs 600000 7302250 (lw_Z below #[Value.ref b] s) (F0 m 1091 ls [])) : W p l e room_1 s m #[Value.ref b] below meth c H locs 600000 7302250 (lw_Z below #[Value.ref b] s) (F0 m 521 ls []) := by
  obtain ⟨hx, hb, hr, hml, hown, hts0, hX, hbl, hlocks, hgv⟩ := id C0
  obtain ⟨hG, ndx, ndm, hdd, hAx, hAm⟩ := C1
  obtain ⟨n, fo, ki, st, we, lo, rd, rc, rv, sh, sla, sle, bg, tr, fa, n2, go, kj, sj, wj, lj, ti, ra, rch, q0, q1, q2, q3, fk, fc, hd, hB, hPx, hPm⟩ := hI
  obtain ⟨hn, hfo, hki, hst, hwe, hlo, hrd, hrc, hrv, hsla, hsle⟩ := id hB
  have hbA : ¬ LwA s b := Nat.not_le.mpr hbl
  have hts : ∀ w ∈ wsL_law, w.before #[Value.ref b] s = true := fun w h => hts0 w (wsL_law_in w h)
  have hF : CallFix p m c cL_law 4 s _ wsL_law RL := ⟨hx, hb, hml, hown, hts⟩
  refine lv_aload_n hx hb dL_law_521 rfl (lv_at hl 1 rfl) ?_
  refine lv_aload_n hx hb dL_law_522 rfl (lv_at hl 0 rfl) ?_
  refine lv_iload_n hx hb dL_law_523 rfl (lv_at hl 3 rfl) ?_
  refine lv_iconst (v := nI 1) hx hb dL_law_524 (by decide) ?_
  refine xaddN hx hb dL_law_525 ?_
  refine xsld hx hb hX hbl hbA hS (i + 1) rfl (by omega) hL dL_law_526 ?_
  refine lawI (va_runV (As := [.int (xs (i + 1))]) (rest := []) hF (c_X2_blow l D cI cS adx sh sla sle (bigF bg) n fo ki st we lo n2 go kj sj wj lj ti rc rv rd tr fa (xs (i + 1)) ndx hn hfo hki hwe hst hlo) (cwV 1 hts gL_law_X2_blow rfl rfl rfl hL_X2_blow ⟨(Nat.le_of_ble_eq_true rfl), (Nat.le_of_ble_eq_true rfl)⟩) (PR.preV hG hPx (ci := 2) rfl rfl) rfl rfl hl.1 rfl (lv_room (Nat.le_of_ble_eq_true rfl)) dL_law_527 ⟨(Nat.le_of_ble_eq_true rfl), (Nat.le_of_ble_eq_true rfl)⟩) hS hAx hPm rfl hdd (fun r_0 u_0 H locs q_0 hPx hPm hS => ?_)
  obtain ⟨n20_0, go0_0, kj0_0, sj0_0, wj0_0, lj0_0⟩ := u_0
  try dsimp only at q_0 hPx
  have hPx : va_P D vwCl (wX cI cS adx sh sla sle (bigF bg) n fo ki st we lo n20_0 go0_0 kj0_0 sj0_0 wj0_0 lj0_0 ti rc rv rd tr fa) H := hPx
  have e_0 : r_0 = A_blow n fo ki st we lo (xs (i + 1)) := q_0
  subst e_0
  refine lv_aload_n hx hb dL_law_530 rfl (lv_at hl 2 rfl) ?_
  refine lv_aload_n hx hb dL_law_531 rfl (lv_at hl 0 rfl) ?_
  refine lv_iload_n hx hb dL_law_532 rfl (lv_at hl 3 rfl) ?_
  refine lv_iconst (v := nI 1) hx hb dL_law_533 (by decide) ?_
  refine xaddN hx hb dL_law_534 ?_
  refine xsld hx hb hX hbl hbA hS (i + 1) rfl (by omega) hL dL_law_535 ?_
  refine lawI (va_runV (As := [.int (xs (i + 1))]) (rest := [.int (A_blow n fo ki st we lo (xs (i + 1)))]) hF (c_X3_blow l D cI cS adm fa n fo ki st we lo ra rch q0 q1 q2 q3 fk fc rd rc rv sh sle sla bg hd tr (xs (i + 1)) ndm hn hfo hki hwe hst hlo) (cwV 1 hts gL_law_X3_blow rfl rfl rfl hL_X3_blow ⟨(Nat.le_of_ble_eq_true rfl), (Nat.le_of_ble_eq_true rfl)⟩) (PR.preV hG hPm (ci := 3) rfl rfl) rfl rfl hl.1 rfl (lv_room (Nat.le_of_ble_eq_true rfl)) dL_law_536 ⟨(Nat.le_of_ble_eq_true rfl), (Nat.le_of_ble_eq_true rfl)⟩) hS hAm hPx rfl (fun q h1 h2 => hdd q h2 h1) (fun r_1 u_1 H locs q_1 hPm hPx hS => ?_)
  obtain ⟨fk0_1, fc0_1⟩ := u_1
  try dsimp only at q_1 hPm
  have hPm : va_P D vwCl (wM cI adm fa n fo ki st we lo ra rch q0 q1 q2 q3 fk0_1 fc0_1 rd rc rv sh sle sla bg hd tr) H := hPm
  have e_1 : r_1 = A_blow n fo ki st we lo (xs (i + 1)) := q_1
  subst e_1
  refine lv_icmp_eq (tgt := 1091) hx hb dL_law_539 (by decide) (fun c_9 => ?_) (fun c_9 => ?_)
  ·
    exact kk _ _ ⟨n, fo, ki, st, we, lo, rd, rc, rv, sh, sla, sle, bg, tr, fa, n20_0, go0_0, kj0_0, sj0_0, wj0_0, lj0_0, ti, ra, rch, q0, q1, q2, q3, fk0_1, fc0_1, hd, hB, hPx, hPm⟩ hS
  · exact absurd rfl c_9
set_option maxHeartbeats 4000000 in
set_option maxRecDepth 100000 in
theorem law_c12 {p : Program} {l : Launch} {e : Env} {s : State} {m : MethodId} {below : List Frame} {meth : Method} {c : Code} {D : va_G} {cI cS : ClassId} {adx adm : Nat → Nat} {b L i : Nat} {xs : Nat → Int32} (hL : L ≤ 3072) (hi : i + 6 ≤ L) (C0 : lw_At p s m meth c b L xs) (C1 : LwC D cI cS s adx adm) {H : Heap} {locs : List Loc} (hI : LwS D cI cS adx adm H) (hS : va_S (LwA s) s.heap H locs) {ls : Array Slot} (hl : lv_has ls 4 [(0, .ref b), (1, .ref (adx 0)), (2, .ref (adm 0)), (3, .int (nI i))])
    (kk : ∀ (H : Heap) (locs : List Loc), LwS D cI cS adx adm H → va_S (LwA s) s.heap H locs → W p l e room_1 s m #[Value.ref b] below meth c H locs 600000 7302250 (lw_Z below #[Value.ref b] s) (F0 m 1091 ls [])) : W p l e room_1 s m #[Value.ref b] below meth c H locs 600000 7302250 (lw_Z below #[Value.ref b] s) (F0 m 544 ls []) := by
  obtain ⟨hx, hb, hr, hml, hown, hts0, hX, hbl, hlocks, hgv⟩ := id C0
  obtain ⟨hG, ndx, ndm, hdd, hAx, hAm⟩ := C1
  obtain ⟨n, fo, ki, st, we, lo, rd, rc, rv, sh, sla, sle, bg, tr, fa, n2, go, kj, sj, wj, lj, ti, ra, rch, q0, q1, q2, q3, fk, fc, hd, hB, hPx, hPm⟩ := hI
  obtain ⟨hn, hfo, hki, hst, hwe, hlo, hrd, hrc, hrv, hsla, hsle⟩ := id hB
  have hbA : ¬ LwA s b := Nat.not_le.mpr hbl
  have hts : ∀ w ∈ wsL_law, w.before #[Value.ref b] s = true := fun w h => hts0 w (wsL_law_in w h)
  have hF : CallFix p m c cL_law 4 s _ wsL_law RL := ⟨hx, hb, hml, hown, hts⟩
  refine lv_aload_n hx hb dL_law_544 rfl (lv_at hl 1 rfl) ?_
  refine lv_aload_n hx hb dL_law_545 rfl (lv_at hl 0 rfl) ?_
  refine lv_iload_n hx hb dL_law_546 rfl (lv_at hl 3 rfl) ?_
  refine lv_iconst (v := nI 1) hx hb dL_law_547 (by decide) ?_
  refine xaddN hx hb dL_law_548 ?_
  refine xsld hx hb hX hbl hbA hS (i + 1) rfl (by omega) hL dL_law_549 ?_
  refine lv_aload_n hx hb dL_law_550 rfl (lv_at hl 0 rfl) ?_
  refine lv_iload_n hx hb dL_law_551 rfl (lv_at hl 3 rfl) ?_
  refine lv_iconst (v := nI 2) hx hb dL_law_552 (by decide) ?_
  refine xaddN hx hb dL_law_553 ?_
  refine xsld hx hb hX hbl hbA hS (i + 2) rfl (by omega) hL dL_law_554 ?_
  refine lawI (va_runV (As := [.int (xs (i + 1)), .int (xs (i + 2))]) (rest := []) hF (c_X2_wards l D cI cS adx sh sla sle (bigF bg) n fo ki st we lo n2 go kj sj wj lj ti rc rv rd tr fa (xs (i + 1)) (xs (i + 2)) ndx hn hfo hki hwe hst hlo) (cwV 2 hts gL_law_X2_wards rfl rfl rfl hL_X2_wards ⟨(Nat.le_of_ble_eq_true rfl), (Nat.le_of_ble_eq_true rfl)⟩) (PR.preV hG hPx (ci := 2) rfl rfl) rfl rfl hl.1 rfl (lv_room (Nat.le_of_ble_eq_true rfl)) dL_law_555 ⟨(Nat.le_of_ble_eq_true rfl), (Nat.le_of_ble_eq_true rfl)⟩) hS hAx hPm rfl hdd (fun r_0 u_0 H locs q_0 hPx hPm hS => ?_)
  obtain ⟨ti0_0, rfl⟩ : ∃ z, z = u_0 := ⟨_, rfl⟩
  try dsimp only at q_0 hPx
  have hPx : va_P D vwCl (wX cI cS adx sh sla sle (bigF bg) n fo ki st we lo n2 go kj sj wj lj ti0_0 rc rv rd tr fa) H := hPx
  have e_0 : r_0 = A_wards n fo ki st we lo (xs (i + 1)) (xs (i + 2)) := q_0
  subst e_0
  refine lv_aload_n hx hb dL_law_558 rfl (lv_at hl 2 rfl) ?_
  refine lv_aload_n hx hb dL_law_559 rfl (lv_at hl 0 rfl) ?_
  refine lv_iload_n hx hb dL_law_560 rfl (lv_at hl 3 rfl) ?_
  refine lv_iconst (v := nI 1) hx hb dL_law_561 (by decide) ?_
  refine xaddN hx hb dL_law_562 ?_
  refine xsld hx hb hX hbl hbA hS (i + 1) rfl (by omega) hL dL_law_563 ?_
  refine lv_aload_n hx hb dL_law_564 rfl (lv_at hl 0 rfl) ?_
  refine lv_iload_n hx hb dL_law_565 rfl (lv_at hl 3 rfl) ?_
  refine lv_iconst (v := nI 2) hx hb dL_law_566 (by decide) ?_
  refine xaddN hx hb dL_law_567 ?_
  refine xsld hx hb hX hbl hbA hS (i + 2) rfl (by omega) hL dL_law_568 ?_
  refine xrd (va_runV (As := [.int (xs (i + 1)), .int (xs (i + 2))]) (rest := [.int (A_wards n fo ki st we lo (xs (i + 1)) (xs (i + 2)))]) hF (c_X3_wards l D cI cS adm fa n fo ki st we lo ra rch q0 q1 q2 q3 fk fc rd rc rv sh sle sla bg hd tr (xs (i + 1)) (xs (i + 2)) hn hfo hki hwe hst hlo) (cwV 2 hts gL_law_X3_wards rfl rfl rfl hL_X3_wards ⟨(Nat.le_of_ble_eq_true rfl), (Nat.le_of_ble_eq_true rfl)⟩) (PR.preV hG hPm (ci := 3) rfl rfl) rfl rfl hl.1 rfl (lv_room (Nat.le_of_ble_eq_true rfl)) dL_law_569 ⟨(Nat.le_of_ble_eq_true rfl), (Nat.le_of_ble_eq_true rfl)⟩) ?_
  refine lv_icmp_eq (tgt := 1091) hx hb dL_law_572 (by decide) (fun c_9 => ?_) (fun c_9 => ?_)
  ·
    exact kk _ _ ⟨n, fo, ki, st, we, lo, rd, rc, rv, sh, sla, sle, bg, tr, fa, n2, go, kj, sj, wj, lj, ti0_0, ra, rch, q0, q1, q2, q3, fk, fc, hd, hB, hPx, hPm⟩ hS
  · exact absurd rfl c_9
set_option maxHeartbeats 4000000 in
set_option maxRecDepth 100000 in
theorem law_c13 {p : Program} {l : Launch} {e : Env} {s : State} {m : MethodId} {below : List Frame} {meth : Method} {c : Code} {D : va_G} {cI cS : ClassId} {adx adm : Nat → Nat} {b L i : Nat} {xs : Nat → Int32} (hL : L ≤ 3072) (hi : i + 6 ≤ L) (C0 : lw_At p s m meth c b L xs) (C1 : LwC D cI cS s adx adm) {H : Heap} {locs : List Loc} (hI : LwS D cI cS adx adm H) (hS : va_S (LwA s) s.heap H locs) {ls : Array Slot} (hl : lv_has ls 4 [(0, .ref b), (1, .ref (adx 0)), (2, .ref (adm 0)), (3, .int (nI i))])
    (kk : ∀ (H : Heap) (locs : List Loc), LwS D cI cS adx adm H → va_S (LwA s) s.heap H locs → W p l e room_1 s m #[Value.ref b] below meth c H locs 600000 7302250 (lw_Z below #[Value.ref b] s) (F0 m 1091 ls [])) : W p l e room_1 s m #[Value.ref b] below meth c H locs 600000 7302250 (lw_Z below #[Value.ref b] s) (F0 m 577 ls []) := by
  obtain ⟨hx, hb, hr, hml, hown, hts0, hX, hbl, hlocks, hgv⟩ := id C0
  obtain ⟨hG, ndx, ndm, hdd, hAx, hAm⟩ := C1
  obtain ⟨n, fo, ki, st, we, lo, rd, rc, rv, sh, sla, sle, bg, tr, fa, n2, go, kj, sj, wj, lj, ti, ra, rch, q0, q1, q2, q3, fk, fc, hd, hB, hPx, hPm⟩ := hI
  obtain ⟨hn, hfo, hki, hst, hwe, hlo, hrd, hrc, hrv, hsla, hsle⟩ := id hB
  have hbA : ¬ LwA s b := Nat.not_le.mpr hbl
  have hts : ∀ w ∈ wsL_law, w.before #[Value.ref b] s = true := fun w h => hts0 w (wsL_law_in w h)
  have hF : CallFix p m c cL_law 4 s _ wsL_law RL := ⟨hx, hb, hml, hown, hts⟩
  refine lv_aload_n hx hb dL_law_577 rfl (lv_at hl 1 rfl) ?_
  refine lv_aload_n hx hb dL_law_578 rfl (lv_at hl 0 rfl) ?_
  refine lv_iload_n hx hb dL_law_579 rfl (lv_at hl 3 rfl) ?_
  refine lv_iconst (v := nI 1) hx hb dL_law_580 (by decide) ?_
  refine xaddN hx hb dL_law_581 ?_
  refine xsld hx hb hX hbl hbA hS (i + 1) rfl (by omega) hL dL_law_582 ?_
  refine lv_aload_n hx hb dL_law_583 rfl (lv_at hl 0 rfl) ?_
  refine lv_iload_n hx hb dL_law_584 rfl (lv_at hl 3 rfl) ?_
  refine lv_iconst (v := nI 2) hx hb dL_law_585 (by decide) ?_
  refine xaddN hx hb dL_law_586 ?_
  refine xsld hx hb hX hbl hbA hS (i + 2) rfl (by omega) hL dL_law_587 ?_
  refine xrdl (va_runV (As := [.int (xs (i + 1)), .int (xs (i + 2))]) (rest := []) hF (c_X2_power l D cI cS adx sh sla sle (bigF bg) n fo ki st we lo n2 go kj sj wj lj ti rc rv rd tr fa (xs (i + 1)) (xs (i + 2)) hn hfo hki hwe hst hlo) (cwV 2 hts gL_law_X2_power rfl rfl rfl hL_X2_power ⟨(Nat.le_of_ble_eq_true rfl), (Nat.le_of_ble_eq_true rfl)⟩) (PR.preV hG hPx (ci := 2) rfl rfl) rfl rfl hl.1 rfl (lv_room (Nat.le_of_ble_eq_true rfl)) dL_law_588 ⟨(Nat.le_of_ble_eq_true rfl), (Nat.le_of_ble_eq_true rfl)⟩) ?_
  refine lv_aload_n hx hb dL_law_591 rfl (lv_at hl 2 rfl) ?_
  refine lv_aload_n hx hb dL_law_592 rfl (lv_at hl 0 rfl) ?_
  refine lv_iload_n hx hb dL_law_593 rfl (lv_at hl 3 rfl) ?_
  refine lv_iconst (v := nI 1) hx hb dL_law_594 (by decide) ?_
  refine xaddN hx hb dL_law_595 ?_
  refine xsld hx hb hX hbl hbA hS (i + 1) rfl (by omega) hL dL_law_596 ?_
  refine lv_aload_n hx hb dL_law_597 rfl (lv_at hl 0 rfl) ?_
  refine lv_iload_n hx hb dL_law_598 rfl (lv_at hl 3 rfl) ?_
  refine lv_iconst (v := nI 2) hx hb dL_law_599 (by decide) ?_
  refine xaddN hx hb dL_law_600 ?_
  refine xsld hx hb hX hbl hbA hS (i + 2) rfl (by omega) hL dL_law_601 ?_
  refine xrdl (va_runV (As := [.int (xs (i + 1)), .int (xs (i + 2))]) (rest := [.long (A_power n fo ki st we (xs (i + 1)) (xs (i + 2)))]) hF (c_X3_power l D cI cS adm fa n fo ki st we lo ra rch q0 q1 q2 q3 fk fc rd rc rv sh sle sla bg hd tr (xs (i + 1)) (xs (i + 2)) hn hfo hki hwe hst hlo) (cwV 2 hts gL_law_X3_power rfl rfl rfl hL_X3_power ⟨(Nat.le_of_ble_eq_true rfl), (Nat.le_of_ble_eq_true rfl)⟩) (PR.preV hG hPm (ci := 3) rfl rfl) rfl rfl hl.1 rfl (lv_room (Nat.le_of_ble_eq_true rfl)) dL_law_602 ⟨(Nat.le_of_ble_eq_true rfl), (Nat.le_of_ble_eq_true rfl)⟩) ?_
  refine W.lcmp hx hb dL_law_605 ?_
  refine lv_if_eq (tgt := 1091) hx hb dL_law_606 (by decide) (fun c_9 => ?_) (fun c_9 => ?_)
  ·
    exact kk _ _ ⟨n, fo, ki, st, we, lo, rd, rc, rv, sh, sla, sle, bg, tr, fa, n2, go, kj, sj, wj, lj, ti, ra, rch, q0, q1, q2, q3, fk, fc, hd, hB, hPx, hPm⟩ hS
  · exact (c_9 (by rw [lg_cmp_eq])).elim
set_option maxHeartbeats 4000000 in
set_option maxRecDepth 100000 in
theorem law_c14 {p : Program} {l : Launch} {e : Env} {s : State} {m : MethodId} {below : List Frame} {meth : Method} {c : Code} {D : va_G} {cI cS : ClassId} {adx adm : Nat → Nat} {b L i : Nat} {xs : Nat → Int32} (hL : L ≤ 3072) (hi : i + 6 ≤ L) (C0 : lw_At p s m meth c b L xs) (C1 : LwC D cI cS s adx adm) {H : Heap} {locs : List Loc} (hI : LwS D cI cS adx adm H) (hS : va_S (LwA s) s.heap H locs) {ls : Array Slot} (hl : lv_has ls 4 [(0, .ref b), (1, .ref (adx 0)), (2, .ref (adm 0)), (3, .int (nI i))])
    (kk : ∀ (H : Heap) (locs : List Loc), LwS D cI cS adx adm H → va_S (LwA s) s.heap H locs → W p l e room_1 s m #[Value.ref b] below meth c H locs 600000 7302250 (lw_Z below #[Value.ref b] s) (F0 m 1091 ls [])) : W p l e room_1 s m #[Value.ref b] below meth c H locs 600000 7302250 (lw_Z below #[Value.ref b] s) (F0 m 611 ls []) := by
  obtain ⟨hx, hb, hr, hml, hown, hts0, hX, hbl, hlocks, hgv⟩ := id C0
  obtain ⟨hG, ndx, ndm, hdd, hAx, hAm⟩ := C1
  obtain ⟨n, fo, ki, st, we, lo, rd, rc, rv, sh, sla, sle, bg, tr, fa, n2, go, kj, sj, wj, lj, ti, ra, rch, q0, q1, q2, q3, fk, fc, hd, hB, hPx, hPm⟩ := hI
  obtain ⟨hn, hfo, hki, hst, hwe, hlo, hrd, hrc, hrv, hsla, hsle⟩ := id hB
  have hbA : ¬ LwA s b := Nat.not_le.mpr hbl
  have hts : ∀ w ∈ wsL_law, w.before #[Value.ref b] s = true := fun w h => hts0 w (wsL_law_in w h)
  have hF : CallFix p m c cL_law 4 s _ wsL_law RL := ⟨hx, hb, hml, hown, hts⟩
  refine lv_aload_n hx hb dL_law_611 rfl (lv_at hl 1 rfl) ?_
  refine lv_aload_n hx hb dL_law_612 rfl (lv_at hl 0 rfl) ?_
  refine lv_iload_n hx hb dL_law_613 rfl (lv_at hl 3 rfl) ?_
  refine lv_iconst (v := nI 1) hx hb dL_law_614 (by decide) ?_
  refine xaddN hx hb dL_law_615 ?_
  refine xsld hx hb hX hbl hbA hS (i + 1) rfl (by omega) hL dL_law_616 ?_
  refine lv_aload_n hx hb dL_law_617 rfl (lv_at hl 0 rfl) ?_
  refine lv_iload_n hx hb dL_law_618 rfl (lv_at hl 3 rfl) ?_
  refine lv_iconst (v := nI 2) hx hb dL_law_619 (by decide) ?_
  refine xaddN hx hb dL_law_620 ?_
  refine xsld hx hb hX hbl hbA hS (i + 2) rfl (by omega) hL dL_law_621 ?_
  refine lawI (va_runV (As := [.int (xs (i + 1)), .int (xs (i + 2))]) (rest := []) hF (c_X2_reading l D cI cS adx sh sla sle (bigF bg) n fo ki st we lo n2 go kj sj wj lj ti rc rv rd tr fa (xs (i + 1)) (xs (i + 2)) ndx hn hrd) (cwV 2 hts gL_law_X2_reading rfl rfl rfl hL_X2_reading ⟨(Nat.le_of_ble_eq_true rfl), (Nat.le_of_ble_eq_true rfl)⟩) (PR.preV hG hPx (ci := 2) rfl rfl) rfl rfl hl.1 rfl (lv_room (Nat.le_of_ble_eq_true rfl)) dL_law_622 ⟨(Nat.le_of_ble_eq_true rfl), (Nat.le_of_ble_eq_true rfl)⟩) hS hAx hPm rfl hdd (fun r_0 u_0 H locs q_0 hPx hPm hS => ?_)
  try dsimp only at q_0 hPx
  have hPx : va_P D vwCl (wX cI cS adx sh sla sle (bigF bg) n fo ki st we lo n2 go kj sj wj lj ti (C_reading n rd rc (xs (i + 1)) (xs (i + 2))) (V_reading n rd rv (xs (i + 1)) (xs (i + 2))) (S_reading n rd (xs (i + 1)) (xs (i + 2))) tr fa) H := hPx
  have e_0 : r_0 = A_reading n rd (xs (i + 1)) (xs (i + 2)) := q_0
  subst e_0
  refine lv_aload_n hx hb dL_law_625 rfl (lv_at hl 2 rfl) ?_
  refine lv_aload_n hx hb dL_law_626 rfl (lv_at hl 0 rfl) ?_
  refine lv_iload_n hx hb dL_law_627 rfl (lv_at hl 3 rfl) ?_
  refine lv_iconst (v := nI 1) hx hb dL_law_628 (by decide) ?_
  refine xaddN hx hb dL_law_629 ?_
  refine xsld hx hb hX hbl hbA hS (i + 1) rfl (by omega) hL dL_law_630 ?_
  refine lv_aload_n hx hb dL_law_631 rfl (lv_at hl 0 rfl) ?_
  refine lv_iload_n hx hb dL_law_632 rfl (lv_at hl 3 rfl) ?_
  refine lv_iconst (v := nI 2) hx hb dL_law_633 (by decide) ?_
  refine xaddN hx hb dL_law_634 ?_
  refine xsld hx hb hX hbl hbA hS (i + 2) rfl (by omega) hL dL_law_635 ?_
  refine lawI (va_runV (As := [.int (xs (i + 1)), .int (xs (i + 2))]) (rest := [.int (A_reading n rd (xs (i + 1)) (xs (i + 2)))]) hF (c_X3_reading l D cI cS adm fa n fo ki st we lo ra rch q0 q1 q2 q3 fk fc rd rc rv sh sle sla bg hd tr (xs (i + 1)) (xs (i + 2)) ndm hn hrd) (cwV 2 hts gL_law_X3_reading rfl rfl rfl hL_X3_reading ⟨(Nat.le_of_ble_eq_true rfl), (Nat.le_of_ble_eq_true rfl)⟩) (PR.preV hG hPm (ci := 3) rfl rfl) rfl rfl hl.1 rfl (lv_room (Nat.le_of_ble_eq_true rfl)) dL_law_636 ⟨(Nat.le_of_ble_eq_true rfl), (Nat.le_of_ble_eq_true rfl)⟩) hS hAm hPx rfl (fun q h1 h2 => hdd q h2 h1) (fun r_1 u_1 H locs q_1 hPm hPx hS => ?_)
  try dsimp only at q_1 hPm
  have hPm : va_P D vwCl (wM cI adm fa n fo ki st we lo ra rch q0 q1 q2 q3 fk fc (S_reading n rd (xs (i + 1)) (xs (i + 2))) (C_reading n rd rc (xs (i + 1)) (xs (i + 2))) (V_reading n rd rv (xs (i + 1)) (xs (i + 2))) sh sle sla bg hd tr) H := hPm
  have e_1 : r_1 = A_reading n rd (xs (i + 1)) (xs (i + 2)) := q_1
  subst e_1
  refine lv_icmp_eq (tgt := 1091) hx hb dL_law_639 (by decide) (fun c_9 => ?_) (fun c_9 => ?_)
  ·
    exact kk _ _ ⟨n, fo, ki, st, we, lo, S_reading n rd (xs (i + 1)) (xs (i + 2)), C_reading n rd rc (xs (i + 1)) (xs (i + 2)), V_reading n rd rv (xs (i + 1)) (xs (i + 2)), sh, sla, sle, bg, tr, fa, n2, go, kj, sj, wj, lj, ti, ra, rch, q0, q1, q2, q3, fk, fc, hd, st_reading hB, hPx, hPm⟩ hS
  · exact absurd rfl c_9

/-! ===== the world of the model ===== -/
def szI (sh : Nat → Bool) (sle : Nat → Nat) : Nat → Int32 := fun j => if sh j then nI (sle j) else -1
def adM (ad : Nat → Nat) : List Nat := [ad 0, ad 1, ad 2, ad 3, ad 4, ad 5, ad 6, ad 7, ad 8, ad 9, ad 10, ad 11, ad 12, ad 13, ad 14, ad 15]
def wM (cI : ClassId) (ad : Nat → Nat) (fa n fo : Nat) (ki st we lo : Nat → Nat) (ra rch : Nat) (q0 q1 q2 q3 : Nat → Int32) (fk : Nat) (fc : Nat → Nat) (rd : Nat) (rc rv : Nat → Nat) (sh : Nat → Bool) (sle sla : Nat → Nat) (bg hd : Nat → Int32) (tr : Int32) : va_W := [
  (ad 0, .inr (3, [.int (nI fa), .int (nI n), .int (nI fo), .ref (ad 1), .ref (ad 2), .ref (ad 3), .ref (ad 4), .int (nI ra), .int (nI rch), .ref (ad 5), .ref (ad 6), .ref (ad 7), .ref (ad 8), .int (nI fk), .ref (ad 9), .int (nI rd), .ref (ad 10), .ref (ad 11), .ref (ad 12), .ref (ad 13), .ref (ad 14), .ref (ad 15), .int tr])),
  (ad 1, .inl (cI, 8, .inl (aI ki))),
  (ad 2, .inl (cI, 8, .inl (aI st))),
  (ad 3, .inl (cI, 8, .inl (aI we))),
  (ad 4, .inl (cI, 8, .inl (aI lo))),
  (ad 5, .inl (cI, 8, .inl q0)),
  (ad 6, .inl (cI, 8, .inl q1)),
  (ad 7, .inl (cI, 8, .inl q2)),
  (ad 8, .inl (cI, 8, .inl q3)),
  (ad 9, .inl (cI, 8, .inl (aI fc))),
  (ad 10, .inl (cI, 8, .inl (aI rc))),
  (ad 11, .inl (cI, 8, .inl (aI rv))),
  (ad 12, .inl (cI, 4, .inl (szI sh sle))),
  (ad 13, .inl (cI, 4, .inl (aI sla))),
  (ad 14, .inl (cI, 240, .inl bg)),
  (ad 15, .inl (cI, 60, .inl hd))]
section XM
variable {p : Program} {l : Launch} {e : Env} {R : Room} {s : State} {m : MethodId} {args : Array Value} {below : List Frame} {meth : Method} {c : Code} {H : Heap} {locs : List Loc} {cells slots : Nat} {Q : State → Prop}
variable {cc : ByteArray} {pc : Nat} {ls : Array Slot} {rest : List Value}
theorem xladdN (hx : p.tables.exec = Jvm.exec) (hb : c.code = cc) {x y : Nat} (hdg : decode cc pc = .ok (.ladd, 1)) (kk : W p l e R s m args below meth c H locs cells slots Q (F0 m (pc + 1) ls (.long (lN (x + y)) :: rest))) : W p l e R s m args below meth c H locs cells slots Q (F0 m pc ls (.long (lN y) :: .long (lN x) :: rest)) := by
  refine lv_ladd hx hb hdg ?_
  rw [lN_add]; exact kk
theorem xlmulN (hx : p.tables.exec = Jvm.exec) (hb : c.code = cc) {x y : Nat} (hdg : decode cc pc = .ok (.lmul, 1)) (kk : W p l e R s m args below meth c H locs cells slots Q (F0 m (pc + 1) ls (.long (lN (x * y)) :: rest))) : W p l e R s m args below meth c H locs cells slots Q (F0 m pc ls (.long (lN y) :: .long (lN x) :: rest)) := by
  refine lv_lmul hx hb hdg ?_
  rw [lN_mul]; exact kk
theorem lN_n0 {y : Nat} (h2 : 0 < y) (h3 : y < 2 ^ 31) : ¬ lN y = 0 := by
  intro h
  have := (lN_eq (a := y) (b := 0) h3 (by decide)).mp h
  omega
theorem xldivN {x y : Nat} (h1 : x < 2 ^ 31) (h2 : 0 < y) (h3 : y < 2 ^ 31) (hx : p.tables.exec = Jvm.exec) (hb : c.code = cc) (hdg : decode cc pc = .ok (.ldiv, 1)) (kk : W p l e R s m args below meth c H locs cells slots Q (F0 m (pc + 1) ls (.long (lN (x / y)) :: rest))) : W p l e R s m args below meth c H locs cells slots Q (F0 m pc ls (.long (lN y) :: .long (lN x) :: rest)) := by
  refine lv_ldiv hx hb hdg (lN_n0 h2 h3) ?_
  rw [pk_lDiv (by omega) h2 (by omega)]; exact kk
theorem xlremN {x y : Nat} (h1 : x < 2 ^ 31) (h2 : 0 < y) (h3 : y < 2 ^ 31) (hx : p.tables.exec = Jvm.exec) (hb : c.code = cc) (hdg : decode cc pc = .ok (.lrem, 1)) (kk : W p l e R s m args below meth c H locs cells slots Q (F0 m (pc + 1) ls (.long (lN (x % y)) :: rest))) : W p l e R s m args below meth c H locs cells slots Q (F0 m pc ls (.long (lN y) :: .long (lN x) :: rest)) := by
  refine lv_lrem hx hb hdg (lN_n0 h2 h3) ?_
  rw [pk_lRem (by omega) h2 (by omega)]; exact kk
end XM
/-! comparisons -/
theorem lgc_lt {x y : Int64} {a b : Int} (hx : x.toInt = a) (hy : y.toInt = b) : (lg_cmp x y < 0) ↔ a < b := by rw [lg_cmp_lt, Int64.lt_iff_toInt_lt, hx, hy]
theorem lgc_ge {x y : Int64} {a b : Int} (hx : x.toInt = a) (hy : y.toInt = b) : (0 ≤ lg_cmp x y) ↔ b ≤ a := by rw [lg_cmp_ge, Int64.le_iff_toInt_le, hx, hy]
theorem lgc_gt {x y : Int64} {a b : Int} (hx : x.toInt = a) (hy : y.toInt = b) : (0 < lg_cmp x y) ↔ b < a := by rw [lg_cmp_gt, Int64.lt_iff_toInt_lt, hx, hy]
theorem lgc_le {x y : Int64} {a b : Int} (hx : x.toInt = a) (hy : y.toInt = b) : (lg_cmp x y ≤ 0) ↔ a ≤ b := by rw [lg_cmp_le, Int64.le_iff_toInt_le, hx, hy]
theorem lgc_eq {x y : Int64} {a b : Int} (hx : x.toInt = a) (hy : y.toInt = b) : (lg_cmp x y = 0) ↔ a = b := by rw [lg_cmp_eq, ← hx, ← hy]; exact Int64.toInt_inj.symm
theorem bI_1 {b : Bool} : bI b = nI 1 ↔ b = true := by cases b <;> simp [bI, nI]
theorem bI_n1 {b : Bool} : ¬ bI b = nI 1 ↔ b = false := by cases b <;> simp [bI, nI]
theorem nI_nn {n : Nat} (h : n < 2 ^ 31) : ¬ nI n < 0 := fun c => by
  have := (i32_ltc (v := nI n) (b := 0) (by decide)).mp c
  rw [nI_toInt h] at this
  omega
theorem nI_0le {n : Nat} (h : n < 2 ^ 31) : (0 : Int32) ≤ nI n := (i32_gec (v := nI n) (b := 0) (by decide)).mpr (by rw [nI_toInt h]; omega)
theorem lN_hi {n : Nat} (h : n < 2 ^ 31) : (lN n - lN 1).toInt = (n : Int) - 1 := by
  cases n with
  | zero => decide
  | succ m =>
    rw [lN_sub (by omega), lN_toInt (by omega)]
    omega
/-! sheets -/
theorem szI_t {sh : Nat → Bool} {sle : Nat → Nat} {j : Nat} (h : sh j = true) : szI sh sle j = nI (sle j) := by unfold szI; rw [if_pos h]
theorem szI_f {sh : Nat → Bool} {sle : Nat → Nat} {j : Nat} (h : sh j = false) : szI sh sle j = -1 := by unfold szI; rw [if_neg (by rw [h]; decide)]
theorem szI_lt {sh : Nat → Bool} {sle : Nat → Nat} {j : Nat} (h : (szI sh sle j).toInt < 0) (hl : sle j ≤ 60) : sh j = false := by
  cases hs : sh j with
  | false => rfl
  | true =>
    rw [szI_t hs, nI_toInt (by omega)] at h
    omega
theorem szI_ge {sh : Nat → Bool} {sle : Nat → Nat} {j : Nat} (h : 0 ≤ (szI sh sle j).toInt) : sh j = true := by
  cases hs : sh j with
  | true => rfl
  | false =>
    rw [szI_f hs] at h
    exact absurd h (by decide)
theorem szI_set {sh : Nat → Bool} {sle : Nat → Nat} {j w : Nat} : upd (szI sh sle) j (nI w) = szI (va_up sh j true) (va_up sle j w) := by
  funext x
  unfold upd szI va_up
  by_cases h : x = j
  · subst h; simp
  · simp [h]
theorem szI_lose {sh : Nat → Bool} {sle : Nat → Nat} {j : Nat} : upd (szI sh sle) j (-1) = szI (va_up sh j false) sle := by
  funext x
  unfold upd szI va_up
  by_cases h : x = j
  · subst h; simp
  · simp [h]
theorem updN_va {f : Nat → Nat} {k v : Nat} : updN f k v = va_up f k v := rfl
/-- the sheets' cells, sheet by sheet -/
def bigF (bg : Nat → Int32) : Nat → Nat → Int32 := fun j i => bg (60 * j + i)
/-- so many cells emptied from here on; so many put -/
def clG (m a : Nat) (bg : Nat → Int32) : Nat → Int32 := fun x => if a ≤ x ∧ x < a + m then nI 0 else bg x
theorem clG_0 {a : Nat} {bg : Nat → Int32} : clG 0 a bg = bg := by
  funext x
  unfold clG
  rw [if_neg (by omega)]
theorem clG_s {m a : Nat} {bg : Nat → Int32} : upd (clG m a bg) (a + m) (nI 0) = clG (m + 1) a bg := by
  funext x
  unfold upd clG
  by_cases h : x = a + m
  · rw [if_pos h, if_pos (by omega)]
  · rw [if_neg h]
    by_cases h2 : a ≤ x ∧ x < a + m
    · rw [if_pos h2, if_pos (by omega)]
    · rw [if_neg h2, if_neg (by omega)]
def hdF (m a : Nat) (bg hd : Nat → Int32) : Nat → Int32 := fun x => if x < m then bg (a + x) else hd x
theorem hdF_0 {a : Nat} {bg hd : Nat → Int32} : hdF 0 a bg hd = hd := by
  funext x
  unfold hdF
  rw [if_neg (by omega)]
theorem hdF_s {m a : Nat} {bg hd : Nat → Int32} : upd (hdF m a bg hd) m (bg (a + m)) = hdF (m + 1) a bg hd := by
  funext x
  unfold upd hdF
  by_cases h : x = m
  · subst h; rw [if_pos rfl, if_pos (by omega)]
  · rw [if_neg h]
    by_cases h2 : x < m
    · rw [if_pos h2, if_pos (by omega)]
    · rw [if_neg h2, if_neg (by omega)]
def ptF (m d : Nat) (hd bg : Nat → Int32) : Nat → Int32 := fun x => if d ≤ x ∧ x < d + m then hd (x - d) else bg x
theorem ptF_0 {d : Nat} {bg hd : Nat → Int32} : ptF 0 d hd bg = bg := by
  funext x
  unfold ptF
  rw [if_neg (by omega)]
theorem ptF_s {m d : Nat} {bg hd : Nat → Int32} : upd (ptF m d hd bg) (d + m) (hd m) = ptF (m + 1) d hd bg := by
  funext x
  unfold upd ptF
  by_cases h : x = d + m
  · rw [if_pos h, if_pos (by omega), h, Nat.add_sub_cancel_left]
  · rw [if_neg h]
    by_cases h2 : d ≤ x ∧ x < d + m
    · rw [if_pos h2, if_pos (by omega)]
    · rw [if_neg h2, if_neg (by omega)]
def cpG (s d m : Nat) (bg : Nat → Int32) : Nat → Int32 := fun x => if d ≤ x ∧ x < d + m then bg (s + (x - d)) else bg x
theorem cp_pt {s d m : Nat} {bg hd : Nat → Int32} : ptF m d (hdF m s bg hd) bg = cpG s d m bg := by
  funext x
  unfold ptF cpG hdF
  by_cases h2 : d ≤ x ∧ x < d + m
  · rw [if_pos h2, if_pos h2, if_pos (by omega)]
  · rw [if_neg h2, if_neg h2]
/-- what may not be read of a sheet: the fault's number, 0 for none -/
def cbN (sh : Nat → Bool) (sla sle : Nat → Nat) (j w : Nat) (i c : Int32) : Nat :=
  if fltN (sh j) (sla j) w = 0 then if c.toInt < 0 then 4 else if hldB (sle j) i c then 0 else 3 else fltN (sh j) (sla j) w
def cbR (c : Nat) : Int32 := if c = 0 then nI 0 else -10 - nI c
theorem cbN_le {sh : Nat → Bool} {sla sle : Nat → Nat} {j w : Nat} {i c : Int32} : cbN sh sla sle j w i c ≤ 4 := by
  have := flt_le (sh j) (sla j) w
  unfold cbN
  repeat' split
  all_goals omega
theorem cbR_ge {c : Nat} (hc : c ≤ 4) (h : 0 ≤ (cbR c).toInt) : c = 0 := by
  rcases (show c = 0 ∨ c = 1 ∨ c = 2 ∨ c = 3 ∨ c = 4 by omega) with r | r | r | r | r <;> subst r
  · rfl
  all_goals exact absurd h (by decide)
theorem cbR_lt {c : Nat} (h : ¬ 0 ≤ (cbR c).toInt) : ¬ c = 0 := by
  intro r
  subst r
  exact h (by decide)
/-! bits, one after the other -/
theorem shr1 : ∀ x, x < 256 → nI x >>> (nI 1 &&& 31) = nI (x / 2) := by decide +kernel
theorem bits_s {a i : Nat} : sumN (fun j => if a.testBit j then 1 else 0) i + a / 2 ^ i % 2 = sumN (fun j => if a.testBit j then 1 else 0) (i + 1) := by
  show _ = sumN _ i + (if a.testBit i then 1 else 0)
  rw [Nat.testBit_eq_decide_div_mod_eq]
  have h : a / 2 ^ i % 2 < 2 := Nat.mod_lt _ (by decide)
  by_cases h1 : a / 2 ^ i % 2 = 1
  · rw [h1]; simp
  · have h0 : a / 2 ^ i % 2 = 0 := by omega
    rw [h0]; simp
theorem bits_e : ∀ a, a < 256 → ∀ i, i < 9 → a / 2 ^ i = 0 → sumN (fun j => if a.testBit j then 1 else 0) i = popN a := by decide +kernel
theorem bits_8 {a : Nat} (ha : a < 256) : a / 2 ^ 8 = 0 := Nat.div_eq_of_lt ha
theorem div2 {a i : Nat} : a / 2 ^ i / 2 = a / 2 ^ (i + 1) := by rw [Nat.div_div_eq_div_mul, Nat.pow_succ]
/-! kept and brought back -/
def kpF (n : Nat) (a b : Nat → Nat) : Nat → Nat := fun j => if j < n then a j else b j
theorem kpF_0 {a b : Nat → Nat} : kpF 0 a b = b := by funext j; simp [kpF]
theorem kpF_s {i : Nat} {a b : Nat → Nat} : updN (kpF i a b) i (a i) = kpF (i + 1) a b := by
  funext j
  unfold updN kpF
  by_cases h : j = i
  · subst h; simp
  · have : (j < i + 1) = (j < i) := by apply propext; omega
    rw [if_neg h]; simp only [this]
theorem kp_back {n : Nat} {lo fc lo2 : Nat → Nat} (h : ∀ j, n ≤ j → lo2 j = lo j) : kpF n (kpF n lo fc) lo2 = lo := by
  funext j
  unfold kpF
  by_cases hj : j < n
  · rw [if_pos hj, if_pos hj]
  · rw [if_neg hj, h j (by omega)]
/-! votes of both sides -/
theorem sumZ_vf {n fo : Nat} {ki st we lo : Nat → Nat} : ∀ m, sumZ (tiN n fo ki st we lo) m = (sumN (fun j => if sdN n fo st lo j = 1 then voN fo ki we j else 0) m : Int) - (sumN (fun j => if sdN n fo st lo j = 2 then voN fo ki we j else 0) m : Int)
  | 0 => rfl
  | m + 1 => by
    have h := sumZ_vf (n := n) (fo := fo) (ki := ki) (st := st) (we := we) (lo := lo) m
    show sumZ _ m + tiN n fo ki st we lo m = ((sumN _ m + (if sdN n fo st lo m = 1 then voN fo ki we m else 0) : Nat) : Int) - ((sumN _ m + (if sdN n fo st lo m = 2 then voN fo ki we m else 0) : Nat) : Int)
    rw [h]
    unfold tiN
    by_cases h1 : sdN n fo st lo m = 1
    · rw [if_pos h1, if_pos h1, if_neg (by omega)]; omega
    · by_cases h2 : sdN n fo st lo m = 2
      · rw [if_neg h1, if_pos h2, if_neg h1, if_pos h2]; omega
      · rw [if_neg h1, if_neg h2, if_neg h1, if_neg h2]; omega
theorem carB_vf {n fo : Nat} {ki st we lo : Nat → Nat} : carB n fo ki st we lo = decide (vfN n fo ki st we lo 2 < vfN n fo ki st we lo 1) := by
  unfold carB vfN
  rw [sumZ_vf]
  congr 1
  apply propext
  omega
theorem vfN_le {n fo : Nat} {ki st we lo : Nat → Nat} (hwe : ∀ j, we j ≤ 9) (hn : n ≤ 8) (s1 : Nat) : vfN n fo ki st we lo s1 ≤ 80 := by
  have h := sumN_le (g := fun j => if sdN n fo st lo j = s1 then voN fo ki we j else 0) (b := 10) (fun j => by have := voN_le (fo := fo) (ki := ki) hwe j; show (if sdN n fo st lo j = s1 then voN fo ki we j else 0) ≤ 10; split <;> omega) n
  unfold vfN
  omega
theorem ij_add (i c : Int32) : (i.toInt64 + c.toInt64).toInt = i.toInt + c.toInt := by
  have h1 := Int32.le_toInt i
  have h2 := Int32.toInt_lt i
  have h3 := Int32.le_toInt c
  have h4 := Int32.toInt_lt c
  rw [Int64.toInt_add, Int32.toInt_toInt64, Int32.toInt_toInt64]
  exact Int.bmod_eq_of_le (by omega) (by omega)
theorem xor_256 {fo j : Nat} (h : fo < 256) (hj : j < 8) : fo ^^^ 2 ^ j < 256 := Nat.xor_lt_two_pow (n := 8) h (Nat.pow_lt_pow_right (by decide) hj)
theorem hld1_y {le : Nat} {i : Int32} (h1 : 0 ≤ i.toInt) (h2 : i.toInt ≤ (le : Int) - 1) : hldB le i (nI 1) = true := decide_eq_true (by rw [show (nI 1).toInt = 1 by decide]; omega)
theorem hld1_n {le : Nat} {i : Int32} (h : i.toInt < 0 ∨ (le : Int) - 1 < i.toInt) : hldB le i (nI 1) = false := decide_eq_false (by rw [show (nI 1).toInt = 1 by decide]; omega)
/-- what is wrong with one cell: the fault's number -/
def ncF (sh : Nat → Bool) (sle : Nat → Nat) (j : Nat) (i : Int32) : Nat := if sh j then if hldB (sle j) i (nI 1) then 0 else 3 else 1
section WM
variable {cI : ClassId} {ad : Nat → Nat} {fa n fo : Nat} {ki st we lo : Nat → Nat} {ra rch : Nat} {q0 q1 q2 q3 : Nat → Int32} {fk : Nat} {fc : Nat → Nat} {rd : Nat} {rc rv : Nat → Nat} {sh : Nat → Bool} {sle sla : Nat → Nat} {bg hd : Nat → Int32} {tr : Int32}
theorem wM_szI_set {j w : Nat} : (wM cI ad fa n fo ki st we lo ra rch q0 q1 q2 q3 fk fc rd rc rv sh sle sla bg hd tr).set 12 (ad 12, .inl (cI, 4, .inl (upd (szI sh sle) j (nI w)))) = wM cI ad fa n fo ki st we lo ra rch q0 q1 q2 q3 fk fc rd rc rv (va_up sh j true) (va_up sle j w) sla bg hd tr := by
  rw [szI_set]; rfl
theorem wM_szI_lose {j : Nat} : (wM cI ad fa n fo ki st we lo ra rch q0 q1 q2 q3 fk fc rd rc rv sh sle sla bg hd tr).set 12 (ad 12, .inl (cI, 4, .inl (upd (szI sh sle) j (-1)))) = wM cI ad fa n fo ki st we lo ra rch q0 q1 q2 q3 fk fc rd rc rv (va_up sh j false) sle sla bg hd tr := by
  rw [szI_lose]; rfl
end WM

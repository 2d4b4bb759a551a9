/-! ===== what is searched: sets of chairs, gusts, weights, stripes ===== -/
theorem two_pow_le {n : Nat} (hn : n ≤ 8) : 2 ^ n ≤ 256 := show 2 ^ n ≤ 2 ^ 8 from Nat.pow_le_pow_right (by decide) hn
theorem and_lt {a b : Nat} (hb : b < 256) : a &&& b < 256 := Nat.lt_of_le_of_lt Nat.and_le_right hb
theorem popN_le (a : Nat) : popN a ≤ 8 := by
  have h := sumN_le (g := fun j => if a.testBit j then 1 else 0) (b := 1) (fun j => by split <;> omega) 8
  exact h
def seaL (n set : Nat) (lo : Nat → Nat) : Nat → Nat := fun j => if decide (j < n) && set.testBit j then 0 else lo j
theorem sea_0 {set : Nat} {lo : Nat → Nat} : seaL 0 set lo = lo := by funext j; simp [seaL]
theorem sea_le {n set : Nat} {lo : Nat → Nat} (h : ∀ j, lo j ≤ 3) : ∀ j, seaL n set lo j ≤ 3 := by
  intro j
  have := h j
  unfold seaL
  split <;> omega
theorem blw_le {n fo : Nat} {we lo : Nat → Nat} {w v : Nat} (h : ∀ j, lo j ≤ 3) (hw : w ≤ 3) : ∀ j, blwL n fo we lo w v j ≤ 3 := by
  intro j
  have := h j
  unfold blwL
  split <;> omega
theorem sea_n {set i : Nat} {lo : Nat → Nat} (h : set.testBit i = false) : seaL i set lo = seaL (i + 1) set lo := by
  funext j
  unfold seaL
  by_cases hj : j = i
  · subst hj; simp [h]
  · have e : decide (j < i + 1) = decide (j < i) := by congr 1; apply propext; omega
    rw [e]
theorem sea_y {set fo i : Nat} {lo : Nat → Nat} (h0 : set &&& fo = 0) (h : set.testBit i = true) : trn fo (seaL i set lo) i 0 = seaL (i + 1) set lo := by
  have hf : fo.testBit i = false := by
    have e := congrArg (fun x => x.testBit i) h0
    simp only [Nat.testBit_and, h, Bool.true_and, Nat.zero_testBit] at e
    exact e
  funext j
  unfold trn
  rw [hf, if_neg (by decide)]
  unfold updN seaL
  by_cases hj : j = i
  · subst hj; simp [h]
  · have e : decide (j < i + 1) = decide (j < i) := by congr 1; apply propext; omega
    rw [e, if_neg hj]
/-- a set by which it would be carried -/
def swP (n fo : Nat) (ki st we lo : Nat → Nat) (s : Nat) : Bool := decide (s &&& fo = 0) && carB n fo ki st we (seaL n s lo)
def swO (P : Nat → Bool) : Nat → Option Nat
  | 0 => none
  | m + 1 => if P m && (match swO P m with | none => true | some b => decide (popN m < popN b)) then some m else swO P m
def optI (o : Option Nat) : Int32 := match o with
  | none => -9
  | some b => nI b
def optF (o : Option Nat) : Nat := match o with
  | none => 9
  | some b => popN b
theorem optF_le (o : Option Nat) : optF o ≤ 9 := by
  cases o with
  | none => exact Nat.le_refl 9
  | some b => exact Nat.le_succ_of_le (popN_le b)
theorem sw_n1 {P : Nat → Bool} {i : Nat} (h : optF (swO P i) ≤ popN i) : swO P (i + 1) = swO P i := by
  have hp := popN_le i
  show (if P i && _ then some i else swO P i) = swO P i
  cases ho : swO P i with
  | none =>
    rw [ho] at h
    have h2 : (9 : Nat) ≤ popN i := h
    omega
  | some b =>
    rw [ho] at h
    have h2 : popN b ≤ popN i := h
    have h3 : decide (popN i < popN b) = false := decide_eq_false (by omega)
    simp [h3]
theorem sw_n2 {P : Nat → Bool} {i : Nat} (h : P i = false) : swO P (i + 1) = swO P i := by
  show (if P i && _ then some i else swO P i) = swO P i
  rw [h]; rfl
theorem sw_y {P : Nat → Bool} {i : Nat} (h1 : ¬ optF (swO P i) ≤ popN i) (h : P i = true) : swO P (i + 1) = some i := by
  show (if P i && _ then some i else swO P i) = some i
  cases ho : swO P i with
  | none => rw [h]; rfl
  | some b =>
    rw [ho] at h1
    have h2 : ¬ popN b ≤ popN i := h1
    have h3 : decide (popN i < popN b) = true := decide_eq_true (by omega)
    simp [h, h3]
def A_swing (n fo : Nat) (ki st we lo : Nat → Nat) : Int32 := if n = 0 then -3 else optI (swO (swP n fo ki st we lo) (2 ^ n))
def firstV (P : Nat → Bool) : Nat → Option Nat
  | 0 => none
  | m + 1 => match firstV P m with
    | some v => some v
    | none => if P m then some m else none
theorem firstV_none {P : Nat → Bool} : ∀ {m : Nat}, (∀ v, v < m → P v = false) → firstV P m = none
  | 0, _ => rfl
  | m + 1, h => by
    show (match firstV P m with | some v => some v | none => if P m then some m else none) = none
    rw [firstV_none (fun v hv => h v (by omega)), h m (by omega)]; rfl
theorem firstV_some {P : Nat → Bool} {i : Nat} (h : ∀ v, v < i → P v = false) (hp : P i = true) : ∀ {m : Nat}, i < m → firstV P m = some i
  | m + 1, hm => by
    show (match firstV P m with | some v => some v | none => if P m then some m else none) = some i
    by_cases hi : i < m
    · rw [firstV_some h hp hi]
    · have : i = m := by omega
      subst this
      rw [firstV_none h, hp]; rfl
def blP (n fo : Nat) (ki st we lo : Nat → Nat) (w v : Nat) : Bool := carB n fo ki st we (blwL n fo we lo w v)
def A_blow (n fo : Nat) (ki st we lo : Nat → Nat) (k : Int32) : Int32 := if n = 0 then -3 else if rgB 0 3 k then optI (firstV (blP n fo ki st we lo k.toNatClampNeg) 11) else -2
def allB (P : Nat → Bool) : Nat → Bool
  | 0 => true
  | m + 1 => allB P m && P m
theorem allB_t {P : Nat → Bool} : ∀ {m : Nat}, (∀ r, r < m → P r = true) → allB P m = true
  | 0, _ => rfl
  | m + 1, h => by
    show (allB P m && P m) = true
    rw [allB_t (fun r hr => h r (by omega)), h m (by omega)]; rfl
theorem allB_f {P : Nat → Bool} {i : Nat} (hp : P i = false) : ∀ {m : Nat}, i < m → allB P m = false
  | m + 1, hm => by
    show (allB P m && P m) = false
    by_cases hi : i < m
    · rw [allB_f hp hi]; rfl
    · have : i = m := by omega
      subst this
      rw [hp, Bool.and_false]
/-- a reading is so, if chair j were of the kind kd and of the weight w -/
def isSo (rc rv ki we : Nat → Nat) (j kd w r : Nat) : Bool := decide ((if rc r = j then vtA kd w else vtA (ki (rc r)) (we (rc r))) = rv r)
def asoB (rd : Nat) (rc rv ki we : Nat → Nat) (j kd w : Nat) : Bool := allB (isSo rc rv ki we j kd w) rd
def A_weights (n rd : Nat) (rc rv ki we : Nat → Nat) (k : Int32) : Int32 := if hasB n k then nI (setN (fun v => decide (1 ≤ v) && asoB rd rc rv ki we k.toNatClampNeg (ki k.toNatClampNeg) v) 10) else -1
def A_kinds (n rd : Nat) (rc rv ki we : Nat → Nat) (k : Int32) : Int32 := if hasB n k then nI (setN (fun v => asoB rd rc rv ki we k.toNatClampNeg v (we k.toNatClampNeg)) 3) else -1
theorem vtA_le {k w b : Nat} (h : w ≤ b) : vtA k w ≤ b + 1 := by
  unfold vtA
  repeat' split
  all_goals omega
/-! shares -/
def cntN (P : Nat → Bool) (m : Nat) : Nat := sumN (fun s => if P s then 1 else 0) m
theorem cntN_le (P : Nat → Bool) (m : Nat) : cntN P m ≤ m := by
  have h := sumN_le (g := fun s => if P s then 1 else 0) (b := 1) (fun j => by split <;> omega) m
  unfold cntN
  omega
def shP : Nat → Nat → Nat → Nat × Nat
  | 0, up, low => (up, low)
  | f + 1, up, low => if 1 < low ∧ up % 2 = 0 then shP f (up / 2) (low / 2) else (up, low)
def shN (up low which : Nat) : Nat := if which = 0 then up / Nat.gcd up low else low / Nat.gcd up low
theorem shP_ok : ∀ q, q ≤ 8 → ∀ up, up ≤ 256 → (shP 8 up (2 ^ q)).1 = up / Nat.gcd up (2 ^ q) ∧ (shP 8 up (2 ^ q)).2 = 2 ^ q / Nat.gcd up (2 ^ q) := by decide +kernel
theorem and1_mod (a : Nat) : nI a &&& nI 1 = nI (a % 2) := by rw [nI_and, Nat.and_one_is_mod]
def pwT (n fo : Nat) (ki st we : Nat → Nat) (s : Nat) : Nat := sumN (vsN s st fo ki we) n
def pwP (n fo : Nat) (ki st we : Nat → Nat) (t s : Nat) : Bool := !s.testBit t && (decide (2 * pwT n fo ki st we s ≤ pwT n fo ki st we 15) && decide (pwT n fo ki st we 15 < 2 * pwT n fo ki st we (s ||| 2 ^ t)))
theorem pwT_le {n fo : Nat} {ki st we : Nat → Nat} (hwe : ∀ j, we j ≤ 9) (hn : n ≤ 8) (s : Nat) : pwT n fo ki st we s ≤ 80 := by
  have h := sumN_le (g := vsN s st fo ki we) (b := 10) (fun j => by have := voN_le (fo := fo) (ki := ki) hwe j; unfold vsN; split <;> omega) n
  unfold pwT
  omega
theorem own_bit : ∀ s, s < 16 → ∀ t, t < 4 → (decide (s &&& 2 ^ t = 0)) = !s.testBit t := by decide +kernel
theorem own_y {s t : Nat} (hs : s < 16) (ht : t < 4) (h : s &&& 2 ^ t = 0) : s.testBit t = false := by
  have e := own_bit s hs t ht
  rw [decide_eq_true h] at e
  simpa using e.symm
theorem own_n {s t : Nat} (hs : s < 16) (ht : t < 4) (h : ¬ s &&& 2 ^ t = 0) : s.testBit t = true := by
  have e := own_bit s hs t ht
  rw [decide_eq_false h] at e
  simpa using e.symm
theorem or16 {s t : Nat} (hs : s < 16) (ht : t < 4) : s ||| 2 ^ t < 16 := Nat.or_lt_two_pow (n := 4) hs (Nat.pow_lt_pow_right (by decide) ht)
def lostL : Int64 := -9223372036854775808
def A_power (n fo : Nat) (ki st we : Nat → Nat) (k v : Int32) : Int64 := if rgB 0 3 k && (rgB 0 1 v && decide (0 < n)) then lN (shN (cntN (pwP n fo ki st we k.toNatClampNeg) 16) 8 v.toNatClampNeg) else lostL
/-! odds -/
def viT (n fo : Nat) (ki we : Nat → Nat) (s : Nat) : Nat := sumN (viN s fo ki we) n
theorem viT_le {n fo : Nat} {ki we : Nat → Nat} (hwe : ∀ j, we j ≤ 9) (hn : n ≤ 8) (s : Nat) : viT n fo ki we s ≤ 80 := by
  have h := sumN_le (g := viN s fo ki we) (b := 10) (fun j => by have := voN_le (fo := fo) (ki := ki) hwe j; unfold viN; split <;> omega) n
  unfold viT
  omega
def wtcP (n fo : Nat) (ki we : Nat → Nat) (s : Nat) : Bool := decide (viT n fo ki we (2 ^ n - 1) < 2 * viT n fo ki we s)
def wdbP (n fo : Nat) (ki we : Nat → Nat) (k s : Nat) : Bool := !s.testBit k && (decide (2 * viT n fo ki we s ≤ viT n fo ki we (2 ^ n - 1)) && decide (viT n fo ki we (2 ^ n - 1) < 2 * viT n fo ki we s + 2 * voN fo ki we k))
/-- the odds as ChairBallot counts them: over all ways, folded chairs' too -/
def A_odds (n fo : Nat) (ki we : Nat → Nat) (k v : Int32) : Int64 :=
  if decide (0 < n) && rgB 0 1 v then
    if k = -1 then lN (shN (cntN (wtcP n fo ki we) (2 ^ n)) (2 ^ n) v.toNatClampNeg)
    else if hasB n k && !fo.testBit k.toNatClampNeg then lN (shN (cntN (wdbP n fo ki we k.toNatClampNeg) (2 ^ n)) (2 ^ n / 2) v.toNatClampNeg) else lostL
  else lostL
theorem swP_n {n fo : Nat} {ki st we lo : Nat → Nat} {s : Nat} (h : ¬ s &&& fo = 0) : swP n fo ki st we lo s = false := by
  unfold swP
  rw [decide_eq_false h, Bool.false_and]
theorem swP_m {n fo : Nat} {ki st we lo : Nat → Nat} {s : Nat} (h : carB n fo ki st we (seaL n s lo) = false) : swP n fo ki st we lo s = false := by
  unfold swP
  rw [h, Bool.and_false]
theorem swP_y {n fo : Nat} {ki st we lo : Nat → Nat} {s : Nat} (h : s &&& fo = 0) (h2 : carB n fo ki st we (seaL n s lo) = true) : swP n fo ki st we lo s = true := by
  unfold swP
  rw [h2, decide_eq_true h]; rfl
theorem shP_step {i u lw up low : Nat} (hi : i < 8) (h : 1 < lw ∧ u % 2 = 0) (he : shP (8 - i) u lw = shP 8 up low) : shP (8 - (i + 1)) (u / 2) (lw / 2) = shP 8 up low := by
  rw [← he, show 8 - i = (8 - (i + 1)) + 1 from by omega]
  show _ = if 1 < lw ∧ u % 2 = 0 then _ else _
  rw [if_pos h]
theorem shP_stop {i u lw up low : Nat} (hi : i ≤ 8) (h : i = 8 ∨ ¬ (1 < lw ∧ u % 2 = 0)) (he : shP (8 - i) u lw = shP 8 up low) : shP 8 up low = (u, lw) := by
  by_cases h8 : i = 8
  · subst h8
    exact he.symm
  · rw [← he, show 8 - i = (7 - i) + 1 from by omega]
    show (if 1 < lw ∧ u % 2 = 0 then _ else _) = _
    rw [if_neg (h.resolve_left h8)]
theorem shN_0 {u lw up low q v : Nat} (e1 : shP 8 up low = (u, lw)) (hq : q ≤ 8) (hl : low = 2 ^ q) (hup : up ≤ 256) (hv : v = 0) : u = shN up low v := by
  subst hl; subst hv
  have h := (shP_ok q hq up hup).1
  rw [e1] at h
  exact h
theorem shN_1 {u lw up low q v : Nat} (e1 : shP 8 up low = (u, lw)) (hq : q ≤ 8) (hl : low = 2 ^ q) (hup : up ≤ 256) (hv : ¬ v = 0) : lw = shN up low v := by
  subst hl
  have h := (shP_ok q hq up hup).2
  rw [e1] at h
  unfold shN
  rw [if_neg hv]
  exact h
theorem cnt_n {P : Nat → Bool} {i : Nat} (h : P i = false) : cntN P (i + 1) = cntN P i := by
  show sumN _ i + (if P i then 1 else 0) = _
  rw [h]; rfl
theorem cnt_y {P : Nat → Bool} {i : Nat} (h : P i = true) : cntN P (i + 1) = cntN P i + 1 := by
  show sumN _ i + (if P i then 1 else 0) = _
  rw [h]; rfl
section PW
variable {n fo : Nat} {ki st we : Nat → Nat} {t i : Nat}
theorem pw_1 (hi : i < 16) (ht : t < 4) (h : ¬ i &&& 2 ^ t = 0) : pwP n fo ki st we t i = false := by
  unfold pwP
  rw [own_n hi ht h]; rfl
theorem pw_2 (h : pwT n fo ki st we 15 < 2 * pwT n fo ki st we i) : pwP n fo ki st we t i = false := by
  unfold pwP
  rw [decide_eq_false (show ¬ 2 * pwT n fo ki st we i ≤ pwT n fo ki st we 15 by omega), Bool.false_and, Bool.and_false]
theorem pw_3 (h : 2 * pwT n fo ki st we (i ||| 2 ^ t) ≤ pwT n fo ki st we 15) : pwP n fo ki st we t i = false := by
  unfold pwP
  rw [decide_eq_false (show ¬ pwT n fo ki st we 15 < 2 * pwT n fo ki st we (i ||| 2 ^ t) by omega), Bool.and_false, Bool.and_false]
theorem pw_y (hi : i < 16) (ht : t < 4) (h1 : i &&& 2 ^ t = 0) (h2 : ¬ pwT n fo ki st we 15 < 2 * pwT n fo ki st we i) (h3 : ¬ 2 * pwT n fo ki st we (i ||| 2 ^ t) ≤ pwT n fo ki st we 15) : pwP n fo ki st we t i = true := by
  unfold pwP
  rw [own_y hi ht h1, decide_eq_true (show 2 * pwT n fo ki st we i ≤ pwT n fo ki st we 15 by omega), decide_eq_true (show pwT n fo ki st we 15 < 2 * pwT n fo ki st we (i ||| 2 ^ t) by omega)]; rfl
variable {k : Nat}
theorem wd_1 (h : i.testBit k = true) : wdbP n fo ki we k i = false := by
  unfold wdbP
  rw [h]; rfl
theorem wd_2 (h : viT n fo ki we (2 ^ n - 1) < 2 * viT n fo ki we i) : wdbP n fo ki we k i = false := by
  unfold wdbP
  rw [decide_eq_false (show ¬ 2 * viT n fo ki we i ≤ viT n fo ki we (2 ^ n - 1) by omega), Bool.false_and, Bool.and_false]
theorem wd_3 (h : 2 * viT n fo ki we i + 2 * voN fo ki we k ≤ viT n fo ki we (2 ^ n - 1)) : wdbP n fo ki we k i = false := by
  unfold wdbP
  rw [decide_eq_false (show ¬ viT n fo ki we (2 ^ n - 1) < 2 * viT n fo ki we i + 2 * voN fo ki we k by omega), Bool.and_false, Bool.and_false]
theorem wd_y (h1 : i.testBit k = false) (h2 : ¬ viT n fo ki we (2 ^ n - 1) < 2 * viT n fo ki we i) (h3 : ¬ 2 * viT n fo ki we i + 2 * voN fo ki we k ≤ viT n fo ki we (2 ^ n - 1)) : wdbP n fo ki we k i = true := by
  unfold wdbP
  rw [h1, decide_eq_true (show 2 * viT n fo ki we i ≤ viT n fo ki we (2 ^ n - 1) by omega), decide_eq_true (show viT n fo ki we (2 ^ n - 1) < 2 * viT n fo ki we i + 2 * voN fo ki we k by omega)]; rfl
end PW
theorem half_pow {n : Nat} (h : 0 < n) : 2 ^ n / 2 = 2 ^ (n - 1) := by
  obtain ⟨m, rfl⟩ : ∃ m, n = m + 1 := ⟨n - 1, by omega⟩
  rw [Nat.pow_succ]
  simp
theorem nI_m1 {j : Nat} (h : j < 2 ^ 31) : ¬ nI j = -1 := by
  intro e
  have h2 := nI_toInt h
  rw [e] at h2
  have h3 : (-1 : Int32).toInt = -1 := by decide
  omega

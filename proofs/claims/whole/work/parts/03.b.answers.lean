/-! ===== answers and effects of the calls, in words of the state; both classes are held against them ===== -/
def rgB (a b : Int) (v : Int32) : Bool := decide (a ≤ v.toInt ∧ v.toInt ≤ b)
theorem rgB_y {a b : Int} {v : Int32} (h1 : a ≤ v.toInt) (h2 : v.toInt ≤ b) : rgB a b v = true := decide_eq_true ⟨h1, h2⟩
theorem rgB_n1 {a b : Int} {v : Int32} (h1 : v.toInt < a) : rgB a b v = false := decide_eq_false (by omega)
theorem rgB_n2 {a b : Int} {v : Int32} (h1 : b < v.toInt) : rgB a b v = false := decide_eq_false (by omega)
theorem rgB_nat {a b : Int} {v : Int32} (ha : 0 ≤ a) (h : rgB a b v = true) : ∃ w : Nat, a ≤ (w : Int) ∧ (w : Int) ≤ b ∧ v = nI w := by
  have h := of_decide_eq_true h
  exact ⟨v.toInt.toNat, by omega, by omega, nI_ofT (by omega)⟩
theorem i32_ltc {v : Int32} {b : Nat} (hb : b < 2 ^ 31) : v < nI b ↔ v.toInt < (b : Int) := by rw [Int32.lt_iff_toInt_lt, nI_toInt hb]
theorem i32_gtc {v : Int32} {b : Nat} (hb : b < 2 ^ 31) : nI b < v ↔ (b : Int) < v.toInt := by rw [Int32.lt_iff_toInt_lt, nI_toInt hb]
theorem i32_lec {v : Int32} {b : Nat} (hb : b < 2 ^ 31) : v ≤ nI b ↔ v.toInt ≤ (b : Int) := by rw [Int32.le_iff_toInt_le, nI_toInt hb]
theorem i32_gec {v : Int32} {b : Nat} (hb : b < 2 ^ 31) : nI b ≤ v ↔ (b : Int) ≤ v.toInt := by rw [Int32.le_iff_toInt_le, nI_toInt hb]
theorem i32_lt {v w : Int32} : v < w ↔ v.toInt < w.toInt := Int32.lt_iff_toInt_lt
theorem i32_le {v w : Int32} : v ≤ w ↔ v.toInt ≤ w.toInt := Int32.le_iff_toInt_le
theorem cl8 {j : Nat} (h : j < 1000) : (nI j).toNatClampNeg = j := nI_clamp (by omega)
def carB (n fo : Nat) (ki st we lo : Nat → Nat) : Bool := decide (0 < sumZ (tiN n fo ki st we lo) n)
def forS (n fo : Nat) (st lo : Nat → Nat) (s1 : Nat) : Nat := setN (fun j => decide (sdN n fo st lo j = s1)) n
def A_ofChair (n fo : Nat) (ki st we lo : Nat → Nat) (k what : Int32) : Int32 :=
  if hasB n k then
    if what = nI 0 then nI (ki k.toNatClampNeg) else if what = nI 1 then nI (st k.toNatClampNeg) else if what = nI 2 then nI (we k.toNatClampNeg) else if what = nI 3 then nI (lo k.toNatClampNeg)
    else if what = nI 4 then bI (fo.testBit k.toNatClampNeg) else if what = nI 5 then nI (voN fo ki we k.toNatClampNeg) else if what = nI 6 then nI (sdN n fo st lo k.toNatClampNeg) else -2
  else -1
def A_paint (n : Nat) (st : Nat → Nat) (k v : Int32) : Int32 := if hasB n k then if rgB 0 3 v then nI (st k.toNatClampNeg) else -2 else -1
def S_paint (n : Nat) (st : Nat → Nat) (k v : Int32) : Nat → Nat := if hasB n k && rgB 0 3 v then updN st k.toNatClampNeg v.toNatClampNeg else st
def A_load (n : Nat) (we : Nat → Nat) (k v : Int32) : Int32 := if hasB n k then if rgB 1 9 v then nI (we k.toNatClampNeg) else -2 else -1
def S_load (n : Nat) (we : Nat → Nat) (k v : Int32) : Nat → Nat := if hasB n k && rgB 1 9 v then updN we k.toNatClampNeg v.toNatClampNeg else we
def A_poll (n fo : Nat) (ki st we lo : Nat → Nat) (what : Int32) : Int32 :=
  if n = 0 then -3 else if what = nI 0 then nI (vfN n fo ki st we lo 1) else if what = nI 1 then nI (vfN n fo ki st we lo 2) else if what = nI 2 then bI (carB n fo ki st we lo)
  else if what = nI 3 then nI (forS n fo st lo 1) else if what = nI 4 then nI (forS n fo st lo 2) else -2
def A_turn (n fo : Nat) (lo : Nat → Nat) (k w : Int32) : Int32 := if hasB n k then if rgB 0 3 w then if fo.testBit k.toNatClampNeg then -3 else nI (lo k.toNatClampNeg) else -2 else -1
def S_turn (n fo : Nat) (lo : Nat → Nat) (k w : Int32) : Nat → Nat := if hasB n k && rgB 0 3 w then trn fo lo k.toNatClampNeg w.toNatClampNeg else lo
def A_gust (n fo : Nat) (we lo : Nat → Nat) (w v : Int32) : Int32 := if n = 0 then -3 else if rgB 0 3 w && rgB 0 10 v then nI (sumN (blwC fo we lo w.toNatClampNeg v.toNatClampNeg) n) else -2
def S_gust (n fo : Nat) (we lo : Nat → Nat) (w v : Int32) : Nat → Nat := if n = 0 then lo else if rgB 0 3 w && rgB 0 10 v then blwL n fo we lo w.toNatClampNeg v.toNatClampNeg else lo
def A_rain (n fo : Nat) : Int32 := if n = 0 then -3 else nI n - nI (popN fo)
def S_rain (n fo : Nat) : Nat := if n = 0 then fo else 2 ^ n - 1
def A_open (n fo : Nat) (k : Int32) : Int32 := if hasB n k then if fo.testBit k.toNatClampNeg then nI (popN (fo ^^^ 2 ^ k.toNatClampNeg)) else -3 else -1
def S_open (n fo : Nat) (k : Int32) : Nat := if hasB n k then opn fo k.toNatClampNeg else fo
def A_reading (n rd : Nat) (k v : Int32) : Int32 := if hasB n k then if rgB 0 10 v then if rd = 8 then -4 else nI rd else -2 else -1
def okReading (n rd : Nat) (k v : Int32) : Bool := hasB n k && (rgB 0 10 v && decide (rd < 8))
def S_reading (n rd : Nat) (k v : Int32) : Nat := if okReading n rd k v then rd + 1 else rd
def C_reading (n rd : Nat) (rc : Nat → Nat) (k v : Int32) : Nat → Nat := if okReading n rd k v then updN rc rd k.toNatClampNeg else rc
def V_reading (n rd : Nat) (rv : Nat → Nat) (k v : Int32) : Nat → Nat := if okReading n rd k v then updN rv rd v.toNatClampNeg else rv
def A_back (rd : Nat) (k : Int32) : Int32 := if rgB 0 rd k then nI (rd - k.toNatClampNeg) else -2
def S_back (rd : Nat) (k : Int32) : Nat := if rgB 0 rd k then rd - k.toNatClampNeg else rd
def tr1 (t : Int32) (b : Nat) : Int32 := nI 31 * t + nI b
def tellV (kind w : Nat) : Nat := if kind = 0 then w else if kind = 1 then w + 100 else w + 100 + w
def tellT (t : Int32) (kind : Nat) : Int32 := if kind = 0 then tr1 t 1 else if kind = 1 then tr1 (tr1 t 2) 1 else tr1 (tr1 (tr1 (tr1 t 3) 2) 1) 1
def A_tell (n : Nat) (ki we : Nat → Nat) (k : Int32) : Int32 := if hasB n k then nI (tellV (ki k.toNatClampNeg) (we k.toNatClampNeg)) else -1
def S_tell (n : Nat) (ki : Nat → Nat) (t k : Int32) : Int32 := if hasB n k then tellT t (ki k.toNatClampNeg) else t
def A_chalk (n : Nat) (ki : Nat → Nat) (k : Int32) : Int32 := if hasB n k then if ki k.toNatClampNeg = 2 then nI 40 else k else -1
def S_chalk (n : Nat) (ki : Nat → Nat) (t k : Int32) : Int32 := if hasB n k then if ki k.toNatClampNeg = 2 then tr1 t 5 else tr1 t 4 else t
def A_as (n : Nat) (ki : Nat → Nat) (k v : Int32) : Int32 := if hasB n k then if rgB 0 2 v then if v.toInt ≤ (ki k.toNatClampNeg : Int) then nI 1 else -10 - nI 2 else -2 else -1
def S_as (n : Nat) (ki : Nat → Nat) (k v : Int32) : Nat := if hasB n k && (rgB 0 2 v && !decide (v.toInt ≤ (ki k.toNatClampNeg : Int))) then 2 else 0
def A_many (n fo : Nat) (ki we : Nat → Nat) (rd : Nat) (what : Int32) : Int32 := if what = nI 0 then nI n else if what = nI 1 then nI (popN fo) else if what = nI 2 then nI (sumN (voN fo ki we) n) else if what = nI 3 then nI rd else -2
/-! sheets -/
def okSheet (k la c : Int32) : Bool := rgB 0 3 k && (rgB 0 2 la && rgB 0 60 c)
def A_sheet (k la c : Int32) : Int32 := if rgB 0 3 k then if rgB 0 2 la && decide (c.toInt ≤ 60) then if c.toInt < 0 then -10 - nI 4 else nI 1 else -2 else -1
def S_sheet (k la c : Int32) : Nat := if rgB 0 3 k && (rgB 0 2 la && decide (c.toInt < 0)) then 4 else 0
def ifU {α : Type} (b : Bool) (f : Nat → α) (k : Nat) (v : α) : Nat → α := if b then va_up f k v else f
def A_lose (sh : Nat → Bool) (k : Int32) : Int32 := if rgB 0 3 k then bI (sh k.toNatClampNeg) else -1
def A_put (sh : Nat → Bool) (sle : Nat → Nat) (k i : Int32) : Int32 := if rgB 0 3 k then if sh k.toNatClampNeg then if hldB (sle k.toNatClampNeg) i (nI 1) then nI 1 else -10 - nI 3 else -10 - nI 1 else -1
def S_put (sh : Nat → Bool) (sle : Nat → Nat) (k i : Int32) : Nat := if rgB 0 3 k then if sh k.toNatClampNeg then if hldB (sle k.toNatClampNeg) i (nI 1) then 0 else 3 else 1 else 0
def okPut (sh : Nat → Bool) (sle : Nat → Nat) (k i : Int32) : Bool := rgB 0 3 k && (sh k.toNatClampNeg && hldB (sle k.toNatClampNeg) i (nI 1))
def S_cell (sh : Nat → Bool) (sla sle : Nat → Nat) (k i la : Int32) : Nat := if rgB 0 3 k && rgB 0 2 la then if fltN (sh k.toNatClampNeg) (sla k.toNatClampNeg) la.toNatClampNeg = 0 then if hldB (sle k.toNatClampNeg) i (nI 1) then 0 else 3 else fltN (sh k.toNatClampNeg) (sla k.toNatClampNeg) la.toNatClampNeg else 0
def A_cell (sh : Nat → Bool) (sla sle : Nat → Nat) (sf : Nat → Nat → Int32) (k i la : Int32) : Int64 := if rgB 0 3 k && rgB 0 2 la then if S_cell sh sla sle k i la = 0 then (sf k.toNatClampNeg i.toNatClampNeg).toInt64 else -9223372036854775808 else -9223372036854775808
theorem tell_ok {n : Nat} : n < 2 ^ 31 → (nI n).toNatClampNeg = n := nI_clamp
theorem xtabN {x : Int32} {hi : Int} {N : Nat} (hh : hi = (N : Int) - 1) (h : ∀ j, j < N → ¬ x = nI j) : x.toInt < 0 ∨ hi < x.toInt := by
  by_cases h0 : x.toInt < 0
  · exact Or.inl h0
  · refine Or.inr ?_
    have e := nI_ofT (k := x) (by omega)
    by_cases h1 : hi < x.toInt
    · exact h1
    · exact absurd e (h _ (by omega))
theorem rgB_01 {v : Int32} (h1 : ¬ v = 0) (h2 : ¬ v = nI 1) : rgB 0 1 v = false := by
  refine decide_eq_false (fun h => ?_)
  have e := nI_ofT (k := v) h.1
  rcases (show v.toInt.toNat = 0 ∨ v.toInt.toNat = 1 by omega) with q | q
  · rw [q] at e; exact h1 e
  · rw [q] at e; exact h2 e
theorem dayB_n {v : Int32} (h : ¬ ((0 ≤ v.toInt ∧ v.toInt ≤ 4) ∨ (10 ≤ v.toInt ∧ v.toInt ≤ 17))) : (rgB 0 4 v || rgB 10 17 v) = false := by
  unfold rgB
  rw [decide_eq_false (by omega), decide_eq_false (by omega)]; rfl
theorem opn_lt {fo j : Nat} (h : fo < 256) (hj : j < 8) : opn fo j < 256 := by
  unfold opn
  split
  · exact Nat.xor_lt_two_pow (n := 8) h (Nat.pow_lt_pow_right (by decide) hj)
  · exact h
theorem nIeq {a b : Nat} (ha : a < 2147483648) (hb : b < 2147483648) : (nI a = nI b) = (a = b) := propext (nI_eq ha hb)
theorem bI_true : bI true = nI 1 := rfl
theorem bI_false : bI false = nI 0 := rfl
theorem flt_le (h : Bool) (la w : Nat) : fltN h la w ≤ 2 := by
  unfold fltN
  repeat' split
  all_goals omega
theorem vs_all {st : Nat → Nat} (hst : ∀ j, st j ≤ 3) {fo : Nat} {ki we : Nat → Nat} {n : Nat} : sumN (vsN 15 st fo ki we) n = sumN (voN fo ki we) n := by
  apply sumN_congr
  intro j _
  have h : ∀ x, x ≤ 3 → (15 : Nat).testBit x = true := by decide
  unfold vsN
  rw [if_pos (h _ (hst j))]
theorem b_tf (b : Bool) : b = false ∨ b = true := by cases b <;> simp
theorem va_up_id {α : Type} {f : Nat → α} {j : Nat} : va_up f j (f j) = f := by
  funext k
  unfold va_up
  split
  · subst_vars; rfl
  · rfl

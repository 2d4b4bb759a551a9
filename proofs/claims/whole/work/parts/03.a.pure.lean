/-! ===== the words of the claim's own state: pure functions over small numbers ===== -/
/-- there is a chair of that number -/
def hasB (n : Nat) (k : Int32) : Bool := decide (0 ≤ k.toInt ∧ k.toInt < (n : Int))
theorem hasB_y {n : Nat} {k : Int32} (hn : n ≤ 8) (h1 : ¬ k < 0) (h2 : ¬ nI n ≤ k) : nI 1 = bI (hasB n k) := by
  rw [Int32.lt_iff_toInt_lt, Int32.toInt_zero] at h1
  rw [Int32.le_iff_toInt_le, nI_toInt (by omega)] at h2
  have : hasB n k = true := by simp only [hasB, decide_eq_true_eq]; omega
  rw [this]; rfl
theorem hasB_n1 {n : Nat} {k : Int32} (h1 : k < 0) : nI 0 = bI (hasB n k) := by
  rw [Int32.lt_iff_toInt_lt, Int32.toInt_zero] at h1
  have : hasB n k = false := by simp only [hasB, decide_eq_false_iff_not]; omega
  rw [this]; rfl
theorem hasB_n2 {n : Nat} {k : Int32} (hn : n ≤ 8) (h2 : nI n ≤ k) : nI 0 = bI (hasB n k) := by
  rw [Int32.le_iff_toInt_le, nI_toInt (by omega)] at h2
  have : hasB n k = false := by simp only [hasB, decide_eq_false_iff_not]; omega
  rw [this]; rfl
theorem hasB_nI {n j : Nat} (hj : j < 2 ^ 31) : hasB n (nI j) = decide (j < n) := by
  unfold hasB
  rw [nI_toInt hj]
  congr 1
  simp
theorem hasB_m1 {n : Nat} : hasB n (-1) = false := by
  unfold hasB
  have : (-1 : Int32).toInt = -1 := by decide
  rw [this]; simp
theorem nI_ofT {k : Int32} (h : 0 ≤ k.toInt) : k = nI k.toInt.toNat := by
  have h2 : k.toInt < 2 ^ 31 := by have := Int32.toInt_lt k; simpa using this
  apply Int32.toInt_inj.mp
  rw [nI_toInt (by omega)]
  omega
theorem hasB_t {n : Nat} {k : Int32} (h : hasB n k = true) : ∃ j, j < n ∧ k = nI j := by
  simp only [hasB, decide_eq_true_eq] at h
  exact ⟨k.toInt.toNat, by omega, nI_ofT h.1⟩
/-- votes of a kind and a weight -/
def vtA (k w : Nat) : Nat := if k = 0 then w else if k = 1 then w + 1 else (w + 1) / 2
/-- votes of a chair -/
def voN (fo : Nat) (ki we : Nat → Nat) (j : Nat) : Nat := if fo.testBit j then 0 else vtA (ki j) (we j)
/-- chairs j and j + 1 meet -/
def mtB (n fo : Nat) (lo : Nat → Nat) (j : Nat) : Bool := decide (j + 1 < n) && (!fo.testBit j && (!fo.testBit (j + 1) && (decide (lo j = 1) && decide (lo (j + 1) = 3))))
/-- how a chair counts -/
def sdN (n fo : Nat) (st lo : Nat → Nat) (j : Nat) : Nat :=
  if fo.testBit j then 0
  else if mtB n fo lo j then (if st j = st (j + 1) then 1 else 2)
  else if decide (0 < j) && mtB n fo lo (j - 1) then (if st j = st (j - 1) then 1 else 2)
  else if lo j = 0 then 1 else if lo j = 2 then 2 else 0
def sumN (g : Nat → Nat) : Nat → Nat
  | 0 => 0
  | k + 1 => sumN g k + g k
def setN (p : Nat → Bool) : Nat → Nat
  | 0 => 0
  | k + 1 => setN p k ||| (if p k then 2 ^ k else 0)
theorem sumN_le {g : Nat → Nat} {b : Nat} (h : ∀ j, g j ≤ b) : ∀ n, sumN g n ≤ b * n
  | 0 => Nat.le_refl _
  | n + 1 => by
    have h1 := sumN_le h n
    have h2 := h n
    show sumN g n + g n ≤ b * (n + 1)
    rw [Nat.mul_succ]; omega
theorem sumN_congr {f g : Nat → Nat} : ∀ {n : Nat}, (∀ j, j < n → f j = g j) → sumN f n = sumN g n
  | 0, _ => rfl
  | n + 1, h => by
    show sumN f n + f n = sumN g n + g n
    rw [sumN_congr (fun j hj => h j (by omega)), h n (by omega)]
theorem setN_lt (p : Nat → Bool) : ∀ n, setN p n < 2 ^ n
  | 0 => by simp [setN]
  | n + 1 => by
    have h := setN_lt p n
    have e : 2 ^ n < 2 ^ (n + 1) := Nat.pow_lt_pow_right (by decide) (by omega)
    refine Nat.or_lt_two_pow (by omega) ?_
    split
    · exact e
    · exact Nat.two_pow_pos _
theorem setN_bit (p : Nat → Bool) : ∀ (n j : Nat), (setN p n).testBit j = (decide (j < n) && p j)
  | 0, j => by simp [setN]
  | n + 1, j => by
    show (setN p n ||| _).testBit j = _
    rw [Nat.testBit_or, setN_bit p n j]
    by_cases hp : p n = true
    · rw [if_pos hp, Nat.testBit_two_pow]
      by_cases hj : j = n
      · subst hj; simp [hp]
      · have h1 : decide (n = j) = false := decide_eq_false (fun h => hj h.symm)
        have h2 : decide (j < n + 1) = decide (j < n) := by congr 1; apply propext; omega
        rw [h1, h2, Bool.or_false]
    · rw [if_neg hp, Nat.zero_testBit, Bool.or_false]
      by_cases hj : j = n
      · subst hj; simp [hp]
      · have h2 : decide (j < n + 1) = decide (j < n) := by congr 1; apply propext; omega
        rw [h2]
/-! ints as bits: sets of at most some thirty bits -/
theorem nI_or (a b : Nat) : nI a ||| nI b = nI (a ||| b) := by
  apply Int32.toBitVec_inj.1
  show BitVec.ofNat 32 a ||| BitVec.ofNat 32 b = BitVec.ofNat 32 (a ||| b)
  apply BitVec.eq_of_getLsbD_eq
  intro i hi
  simp [hi]
theorem nI_and (a b : Nat) : nI a &&& nI b = nI (a &&& b) := by
  apply Int32.toBitVec_inj.1
  show BitVec.ofNat 32 a &&& BitVec.ofNat 32 b = BitVec.ofNat 32 (a &&& b)
  apply BitVec.eq_of_getLsbD_eq
  intro i hi
  simp [hi]
theorem nI_xor (a b : Nat) : nI a ^^^ nI b = nI (a ^^^ b) := by
  apply Int32.toBitVec_inj.1
  show BitVec.ofNat 32 a ^^^ BitVec.ofNat 32 b = BitVec.ofNat 32 (a ^^^ b)
  apply BitVec.eq_of_getLsbD_eq
  intro i hi
  simp [hi]
theorem shl1 : ∀ k, k < 31 → nI 1 <<< (nI k &&& 31) = nI (2 ^ k) := by decide +kernel
theorem bit_nI : ∀ a, a < 256 → ∀ k, k < 8 → (nI a >>> (nI k &&& 31)) &&& nI 1 = nI (if a.testBit k then 1 else 0) := by decide +kernel
/-! rows of the walk over them -/
theorem xinc1 {i : Nat} : nI i + Int32.ofInt 1 = nI (i + 1) := nI_1 i
theorem xinc2 {i : Nat} : nI i + Int32.ofInt 2 = nI (i + 2) := by rw [← nI_add]; rfl
theorem xinc6 {i : Nat} : nI i + Int32.ofInt 6 = nI (i + 6) := by rw [← nI_add]; rfl
theorem xdec {i : Nat} : nI (i + 1) + Int32.ofInt (-1) = nI i := pk_m1 i
theorem bI_fit {b : Bool} : fits .boolean (.int (bI b)) = true := by cases b <;> rfl
theorem bit_b : ∀ a, a < 256 → ∀ k, k < 8 → (nI a >>> (nI k &&& 31)) &&& nI 1 = bI (a.testBit k) := by decide +kernel
theorem clr_bit : ∀ a, a < 256 → ∀ k, k < 8 → a.testBit k = true → nI a &&& (nI (2 ^ k) ^^^ (-1)) = nI (a ^^^ 2 ^ k) := by decide +kernel
theorem pk_m1s (n : Nat) : nI (n + 1) - nI 1 = nI n := nI_pred n
theorem mtB_lt {n fo : Nat} {lo : Nat → Nat} {j : Nat} (h : mtB n fo lo j = true) : j + 1 < n := by
  simp only [mtB, Bool.and_eq_true, decide_eq_true_eq] at h
  exact h.1
theorem sdN_le (n fo : Nat) (st lo : Nat → Nat) (j : Nat) : sdN n fo st lo j ≤ 2 := by
  unfold sdN
  repeat' split
  all_goals omega
theorem voN_le {fo : Nat} {ki we : Nat → Nat} (hwe : ∀ j, we j ≤ 9) (j : Nat) : voN fo ki we j ≤ 10 := by
  have h := hwe j
  unfold voN vtA
  repeat' split
  all_goals omega
/-! sums with a sign -/
def zI (z : Int) : Int32 := Int32.ofInt z
theorem zI_nat (n : Nat) : zI (n : Int) = nI n := rfl
theorem zI_0 : zI 0 = nI 0 := rfl
theorem zI_add (a b : Int) : zI a + zI b = zI (a + b) := by
  apply Int32.toBitVec_inj.1
  show BitVec.ofInt 32 a + BitVec.ofInt 32 b = BitVec.ofInt 32 (a + b)
  rw [BitVec.ofInt_add]
theorem zI_neg (n : Nat) : zI (-(n : Int)) = -nI n := by
  apply Int32.toBitVec_inj.1
  show BitVec.ofInt 32 (-(n : Int)) = -BitVec.ofInt 32 (n : Int)
  rw [BitVec.ofInt_neg]
theorem zI_toInt {z : Int} (h1 : -2147483648 ≤ z) (h2 : z < 2147483648) : (zI z).toInt = z := by
  show (Int32.ofInt z).toInt = z
  rw [Int32.toInt_ofInt, Int.bmod_eq_of_le (by show -(4294967296 / 2 : Int) ≤ z; omega) (by show z < ((4294967296 : Int) + 1) / 2; omega)]
def sumZ (g : Nat → Int) : Nat → Int
  | 0 => 0
  | k + 1 => sumZ g k + g k
theorem sumZ_le {g : Nat → Int} {b : Int} (h : ∀ j, g j ≤ b) : ∀ n : Nat, sumZ g n ≤ b * n
  | 0 => by simp [sumZ]
  | n + 1 => by
    have h1 := sumZ_le h n
    have h2 := h n
    show sumZ g n + g n ≤ b * ((n + 1 : Nat) : Int)
    have e : b * ((n + 1 : Nat) : Int) = b * n + b := by rw [Int.natCast_add, Int.mul_add]; simp
    omega
theorem sumZ_ge {g : Nat → Int} {b : Int} (h : ∀ j, b ≤ g j) : ∀ n : Nat, b * n ≤ sumZ g n
  | 0 => by simp [sumZ]
  | n + 1 => by
    have h1 := sumZ_ge h n
    have h2 := h n
    show b * ((n + 1 : Nat) : Int) ≤ sumZ g n + g n
    have e : b * ((n + 1 : Nat) : Int) = b * n + b := by rw [Int.natCast_add, Int.mul_add]; simp
    omega
/-- by how much a chair helps -/
def tiN (n fo : Nat) (ki st we lo : Nat → Nat) (j : Nat) : Int :=
  if sdN n fo st lo j = 1 then (voN fo ki we j : Int) else if sdN n fo st lo j = 2 then -(voN fo ki we j : Int) else 0
theorem tiN_b {n fo : Nat} {ki st we lo : Nat → Nat} (hwe : ∀ j, we j ≤ 9) (j : Nat) : -10 ≤ tiN n fo ki st we lo j ∧ tiN n fo ki st we lo j ≤ 10 := by
  have h := voN_le (fo := fo) (ki := ki) hwe j
  unfold tiN
  split
  · omega
  · split <;> omega
theorem tiN_sum {n fo : Nat} {ki st we lo : Nat → Nat} (hwe : ∀ j, we j ≤ 9) {m : Nat} (hm : m ≤ 8) : -80 ≤ sumZ (tiN n fo ki st we lo) m ∧ sumZ (tiN n fo ki st we lo) m ≤ 80 := by
  have h1 := sumZ_le (fun j => (tiN_b (n := n) (fo := fo) (ki := ki) (st := st) (lo := lo) hwe j).2) m
  have h2 := sumZ_ge (fun j => (tiN_b (n := n) (fo := fo) (ki := ki) (st := st) (lo := lo) hwe j).1) m
  omega
theorem carX_1 {n fo : Nat} {ki st we lo : Nat → Nat} (_ : ∀ j, ki j ≤ 2) (hwe : ∀ j, we j ≤ 9) (hn : n ≤ 8) (h : ¬ zI (sumZ (tiN n fo ki st we lo) n) ≤ 0) : nI 1 = bI (decide (0 < sumZ (tiN n fo ki st we lo) n)) := by
  obtain ⟨h1, h2⟩ := tiN_sum (n := n) (fo := fo) (ki := ki) (st := st) (lo := lo) hwe hn
  rw [Int32.le_iff_toInt_le, zI_toInt (by omega) (by omega), Int32.toInt_zero] at h
  rw [decide_eq_true (by omega)]; rfl
theorem carX_0 {n fo : Nat} {ki st we lo : Nat → Nat} (_ : ∀ j, ki j ≤ 2) (hwe : ∀ j, we j ≤ 9) (hn : n ≤ 8) (h : zI (sumZ (tiN n fo ki st we lo) n) ≤ 0) : nI 0 = bI (decide (0 < sumZ (tiN n fo ki st we lo) n)) := by
  obtain ⟨h1, h2⟩ := tiN_sum (n := n) (fo := fo) (ki := ki) (st := st) (lo := lo) hwe hn
  rw [Int32.le_iff_toInt_le, zI_toInt (by omega) (by omega), Int32.toInt_zero] at h
  rw [decide_eq_false (by omega)]; rfl
/-- votes in a set of chairs; of stripes -/
def viN (set fo : Nat) (ki we : Nat → Nat) (j : Nat) : Nat := if set.testBit j then voN fo ki we j else 0
def vsN (set : Nat) (st : Nat → Nat) (fo : Nat) (ki we : Nat → Nat) (j : Nat) : Nat := if set.testBit (st j) then voN fo ki we j else 0
/-- votes of a side -/
def vfN (n fo : Nat) (ki st we lo : Nat → Nat) (s1 : Nat) : Nat := sumN (fun j => if sdN n fo st lo j = s1 then voN fo ki we j else 0) n
theorem setN_256 {p : Nat → Bool} {n : Nat} (hn : n ≤ 8) : setN p n < 256 := Nat.lt_of_lt_of_le (setN_lt p n) (show 2 ^ n ≤ 2 ^ 8 from Nat.pow_le_pow_right (by decide) hn)
theorem vf_eq {n fo : Nat} {ki st we lo : Nat → Nat} {s1 : Nat} : sumN (viN (setN (fun j => decide (sdN n fo st lo j = s1)) n) fo ki we) n = vfN n fo ki st we lo s1 := by
  apply sumN_congr
  intro j hj
  unfold viN
  rw [setN_bit]
  simp [hj]
/-! what writes -/
def trn (fo : Nat) (lo : Nat → Nat) (j w : Nat) : Nat → Nat := if fo.testBit j then lo else updN lo j w
def opn (fo j : Nat) : Nat := if fo.testBit j then fo ^^^ 2 ^ j else fo
def blwL (n fo : Nat) (we lo : Nat → Nat) (w v : Nat) : Nat → Nat := fun j => if decide (j < n) && (!fo.testBit j && decide (we j < v)) then w else lo j
def blwC (fo : Nat) (we lo : Nat → Nat) (w v : Nat) (j : Nat) : Nat := if !fo.testBit j && (decide (we j < v) && !decide (lo j = w)) then 1 else 0
theorem blwL_0 {fo : Nat} {we lo : Nat → Nat} {w v : Nat} : blwL 0 fo we lo w v = lo := by
  funext j; simp [blwL]
theorem blwL_n {fo : Nat} {we lo : Nat → Nat} {w v i : Nat} (h : (!fo.testBit i && decide (we i < v)) = false ∨ lo i = w) : blwL i fo we lo w v = blwL (i + 1) fo we lo w v := by
  funext j
  unfold blwL
  by_cases hj : j = i
  · subst hj
    rcases h with h | h
    · rw [h]; simp
    · simp only [Nat.lt_irrefl, decide_false, Bool.false_and]
      split
      · simp_all
      · simp [h]
  · have e : decide (j < i + 1) = decide (j < i) := by congr 1; apply propext; omega
    rw [e]
theorem blwL_a {fo : Nat} {we lo : Nat → Nat} {w v i : Nat} (h : fo.testBit i = true) : blwL i fo we lo w v = blwL (i + 1) fo we lo w v := blwL_n (Or.inl (by simp [h]))
theorem blwL_b {fo : Nat} {we lo : Nat → Nat} {w v i : Nat} (h : v ≤ we i) : blwL i fo we lo w v = blwL (i + 1) fo we lo w v := blwL_n (Or.inl (by simp; intro _; exact h))
theorem blwL_c {fo : Nat} {we lo : Nat → Nat} {w v i : Nat} (h : lo i = w) : blwL i fo we lo w v = blwL (i + 1) fo we lo w v := blwL_n (Or.inr h)
theorem blwL_s {fo : Nat} {we lo : Nat → Nat} {w v i : Nat} (h1 : fo.testBit i = false) (h2 : ¬ v ≤ we i) : updN (blwL i fo we lo w v) i w = blwL (i + 1) fo we lo w v := by
  funext j
  unfold blwL updN
  by_cases hj : j = i
  · subst hj
    have h3 : we j < v := by omega
    simp [h1, h3]
  · have e : decide (j < i + 1) = decide (j < i) := by congr 1; apply propext; omega
    rw [e, if_neg hj]
def popN (a : Nat) : Nat := sumN (fun j => if a.testBit j then 1 else 0) 8
def bc1 (x : Int32) : Int32 := x - (((x.toUInt32 >>> ((nI 1).toUInt32 &&& Int32.toUInt32 31)).toInt32) &&& (1431655765))
def bc2 (x : Int32) : Int32 := (x &&& (858993459)) + (((x.toUInt32 >>> ((nI 2).toUInt32 &&& Int32.toUInt32 31)).toInt32) &&& (858993459))
def bc3 (x : Int32) : Int32 := (x + (x.toUInt32 >>> ((nI 4).toUInt32 &&& Int32.toUInt32 31)).toInt32) &&& (252645135)
def bc4 (x : Int32) : Int32 := x + (x.toUInt32 >>> ((nI 8).toUInt32 &&& Int32.toUInt32 31)).toInt32
def bc5 (x : Int32) : Int32 := x + (x.toUInt32 >>> ((nI 16).toUInt32 &&& Int32.toUInt32 31)).toInt32
theorem bc_pop : ∀ a, a < 256 → (bc5 (bc4 (bc3 (bc2 (bc1 (nI a)))))) &&& nI 63 = nI (popN a) := by decide +kernel
/-- an act of a day can be told -/
def actOk (n a b : Nat) : Prop := (b < 4 ∨ b = 9 → a < n) ∧ (4 ≤ b → b < 8 → a ≤ 10)
def actB (fo a b : Nat) : Bool := if b = 9 then fo.testBit a else if b < 4 then !fo.testBit a else true
def actF (n fo a b : Nat) : Nat := if b = 9 then opn fo a else if b = 8 then 2 ^ n - 1 else fo
def actL (n fo : Nat) (we lo : Nat → Nat) (a b : Nat) : Nat → Nat := if b = 9 then lo else if b = 8 then lo else if b < 4 then trn fo lo a b else blwL n fo we lo (b - 4) a
/-! sheets -/
def fltN (h : Bool) (la w : Nat) : Nat := if h = false then 1 else if la = w then 0 else 2
def hldB (le : Nat) (i k : Int32) : Bool := decide (0 ≤ i.toInt ∧ i.toInt ≤ (le : Int) ∧ 0 ≤ k.toInt ∧ k.toInt ≤ (le : Int) - i.toInt)
theorem i32_ge {i : Int32} (h : ¬ i < 0) : 0 ≤ i.toInt := by
  rw [Int32.lt_iff_toInt_lt, Int32.toInt_zero] at h
  omega
theorem i32_lt0 {i : Int32} (h : i < 0) : i.toInt < 0 := by
  rw [Int32.lt_iff_toInt_lt, Int32.toInt_zero] at h
  exact h
theorem i32_sub {le : Nat} {i : Int32} (hle : le ≤ 60) (h1 : 0 ≤ i.toInt) (h2 : i.toInt ≤ (le : Int)) : (nI le - i).toInt = (le : Int) - i.toInt := by
  rw [nI_ofT h1, pk_sub_toInt (by omega) (by omega), nI_toInt (by omega)]
theorem hldB_1 {le : Nat} {i k : Int32} (h : i < 0) : nI 0 = bI (hldB le i k) := by
  have h := i32_lt0 h
  rw [show hldB le i k = false from by simp only [hldB, decide_eq_false_iff_not]; omega]; rfl
theorem hldB_2 {le : Nat} {i k : Int32} (hle : le ≤ 60) (h : nI le < i) : nI 0 = bI (hldB le i k) := by
  rw [Int32.lt_iff_toInt_lt, nI_toInt (by omega)] at h
  rw [show hldB le i k = false from by simp only [hldB, decide_eq_false_iff_not]; omega]; rfl
theorem hldB_3 {le : Nat} {i k : Int32} (h : k < 0) : nI 0 = bI (hldB le i k) := by
  have h := i32_lt0 h
  rw [show hldB le i k = false from by simp only [hldB, decide_eq_false_iff_not]; omega]; rfl
theorem hldB_4 {le : Nat} {i k : Int32} (hle : le ≤ 60) (h1 : ¬ i < 0) (h2 : ¬ nI le < i) (h : nI le - i < k) : nI 0 = bI (hldB le i k) := by
  have h1 := i32_ge h1
  rw [Int32.lt_iff_toInt_lt, nI_toInt (by omega)] at h2
  rw [Int32.lt_iff_toInt_lt, i32_sub hle h1 (by omega)] at h
  rw [show hldB le i k = false from by simp only [hldB, decide_eq_false_iff_not]; omega]; rfl
theorem hldB_y {le : Nat} {i k : Int32} (hle : le ≤ 60) (h1 : ¬ i < 0) (h2 : ¬ nI le < i) (h3 : ¬ k < 0) (h : ¬ nI le - i < k) : nI 1 = bI (hldB le i k) := by
  have h1 := i32_ge h1
  have h3 := i32_ge h3
  rw [Int32.lt_iff_toInt_lt, nI_toInt (by omega)] at h2
  rw [Int32.lt_iff_toInt_lt, i32_sub hle h1 (by omega)] at h
  rw [show hldB le i k = true from by simp only [hldB, decide_eq_true_eq]; omega]; rfl
theorem hldB_at {le : Nat} {i : Int32} (h : hldB le i (nI 1) = true) : ∃ j, j < le ∧ i = nI j := by
  simp only [hldB, decide_eq_true_eq] at h
  have e : (nI 1).toInt = 1 := by decide
  rw [e] at h
  exact ⟨i.toInt.toNat, by omega, nI_ofT h.1⟩
theorem hldB_1j {le j : Nat} (hj : j < le) (hle : le ≤ 60) : hldB le (nI j) (nI 1) = true := by
  simp only [hldB, decide_eq_true_eq]
  have e : (nI 1).toInt = 1 := by decide
  rw [e, nI_toInt (by omega)]
  omega
def atF (le : Nat) (f : Nat → Int32) (i : Int32) : Int32 := if hldB le i (nI 1) then f i.toNatClampNeg else 0
theorem atF_y {le j : Nat} {f : Nat → Int32} (hj : j < le) (hle : le ≤ 60) : atF le f (nI j) = f j := by
  unfold atF
  rw [if_pos (hldB_1j hj hle), nI_clamp (by omega)]
theorem atF_n {le : Nat} {f : Nat → Int32} {i : Int32} (h : hldB le i (nI 1) = false) : atF le f i = nI 0 := by
  unfold atF
  rw [h]; rfl
def cutF (la : Nat) (v : Int32) : Int32 := if la = 0 then v.toInt8.toInt32 else if la = 1 then v.toInt16.toInt32 else v
def clrF (k : Nat) (f : Nat → Int32) : Nat → Int32 := fun j => if j < k then nI 0 else f j
theorem clrF_0 (f : Nat → Int32) : clrF 0 f = f := by funext j; simp [clrF]
theorem clrF_s (f : Nat → Int32) (i : Nat) : upd (clrF i f) i (nI 0) = clrF (i + 1) f := by
  funext j
  unfold upd clrF
  by_cases h : j = i
  · subst h; simp
  · have : (j < i + 1) = (j < i) := by apply propext; omega
    rw [if_neg h]; simp only [this]
theorem min60 {k : Nat} (h : k ≤ 60) : (if nI 60 < nI k then nI 60 else nI k) = nI k := by
  rw [if_neg (nI_nlt h (by omega))]

/-! ===== the model's searches: its words against the class's ===== -/
theorem ncF_le {sh : Nat → Bool} {sle : Nat → Nat} {j : Nat} {i : Int32} : ncF sh sle j i ≤ 3 := by
  unfold ncF
  repeat' split
  all_goals omega
theorem ncF_0 {sh : Nat → Bool} {sle : Nat → Nat} {j : Nat} {i : Int32} (h : ncF sh sle j i ≤ 0) : sh j = true ∧ hldB (sle j) i (nI 1) = true := by
  unfold ncF at h
  cases h1 : sh j <;> cases h2 : hldB (sle j) i (nI 1) <;> simp [h1, h2] at h ⊢
theorem ncF_f {sh : Nat → Bool} {sle : Nat → Nat} {j : Nat} {i : Int32} (h : sh j = false) : ncF sh sle j i = 1 := by unfold ncF; rw [h]; rfl
theorem ncF_n {sh : Nat → Bool} {sle : Nat → Nat} {j : Nat} {i : Int32} (hs : sh j = true) (h : ¬ ncF sh sle j i ≤ 0) : hldB (sle j) i (nI 1) = false ∧ ncF sh sle j i = 3 := by
  unfold ncF at h ⊢
  rw [hs] at h ⊢
  cases h2 : hldB (sle j) i (nI 1) <;> simp [h2] at h ⊢
theorem put_A {sh : Nat → Bool} {sle : Nat → Nat} {j : Nat} {i : Int32} (h0 : rgB 0 3 (nI j) = true) (hc : (nI j).toNatClampNeg = j) : A_put sh sle (nI j) i = if ncF sh sle j i = 0 then nI 1 else -10 - nI (ncF sh sle j i) := by
  unfold A_put ncF
  rw [hc, if_pos h0]
  cases sh j <;> cases hldB (sle j) i (nI 1) <;> rfl
theorem put_S {sh : Nat → Bool} {sle : Nat → Nat} {j : Nat} {i : Int32} (h0 : rgB 0 3 (nI j) = true) (hc : (nI j).toNatClampNeg = j) : S_put sh sle (nI j) i = ncF sh sle j i := by
  unfold S_put ncF
  rw [hc, if_pos h0]
theorem put_ok {sh : Nat → Bool} {sle : Nat → Nat} {j : Nat} {i : Int32} (h0 : rgB 0 3 (nI j) = true) (hc : (nI j).toNatClampNeg = j) : okPut sh sle (nI j) i = decide (ncF sh sle j i = 0) := by
  unfold okPut ncF
  rw [hc, h0]
  cases sh j <;> cases hldB (sle j) i (nI 1) <;> rfl
def faN (c fa : Nat) : Nat := if c = 0 then fa else c
theorem viT_all {n fo : Nat} {ki we : Nat → Nat} : viT n fo ki we (2 ^ n - 1) = sumN (voN fo ki we) n := by
  unfold viT
  apply sumN_congr
  intro j hj
  unfold viN
  rw [Nat.testBit_two_pow_sub_one, decide_eq_true hj, if_pos rfl]
/-! swing -/
theorem optI_ge {o : Option Nat} (h : ¬ (optI o).toInt < 0) : ∃ b, o = some b := by
  cases o with
  | none => exact absurd (show (optI none).toInt < 0 by decide) h
  | some b => exact ⟨b, rfl⟩
theorem optI_lt {o : Option Nat} (ho : ∀ b, o = some b → b < 256) (h : (optI o).toInt < 0) : o = none := by
  cases o with
  | none => rfl
  | some b =>
    have hb := ho b rfl
    have h2 : (optI (some b)).toInt = (b : Int) := nI_toInt (by omega)
    omega
theorem ite_some {c : Bool} {a b : Option Nat} {x : Nat} (h : (if c = true then a else b) = some x) : a = some x ∨ b = some x := by
  cases c
  · exact Or.inr h
  · exact Or.inl h
theorem swO_lt {P : Nat → Bool} : ∀ {m b : Nat}, swO P m = some b → b < m
  | m + 1, b, h => by
    have h : (if P m && (match swO P m with | none => true | some b => decide (popN m < popN b)) then some m else swO P m) = some b := h
    rcases ite_some h with h | h
    · cases h; exact Nat.lt_succ_self _
    · exact Nat.lt_succ_of_lt (swO_lt h)
theorem sw_k {P : Nat → Bool} {i b : Nat} (hb : swO P i = some b) (h : popN b ≤ popN i) : swO P (i + 1) = some b := by
  rw [sw_n1 (by rw [hb]; exact h), hb]
theorem sw_r {P : Nat → Bool} {i b : Nat} (hb : swO P i = some b) (h : popN i < popN b) (hp : P i = true) : swO P (i + 1) = some i := sw_y (by rw [hb]; show ¬ popN b ≤ popN i; omega) hp
theorem sw_o {P : Nat → Bool} {i : Nat} (hb : swO P i = none) (hp : P i = true) : swO P (i + 1) = some i := by
  have hq := popN_le i
  exact sw_y (by rw [hb]; show ¬ 9 ≤ popN i; omega) hp
theorem sea_s {s i : Nat} {lo : Nat → Nat} (h : s.testBit i = true) : updN (seaL i s lo) i 0 = seaL (i + 1) s lo := by
  funext j
  unfold updN seaL
  by_cases hj : j = i
  · subst hj; simp [h]
  · have e : decide (j < i + 1) = decide (j < i) := by congr 1; apply propext; omega
    rw [e, if_neg hj]
theorem updN_id {f : Nat → Nat} {i : Nat} : updN f i (f i) = f := by
  funext j
  unfold updN
  split
  · subst_vars; rfl
  · rfl
theorem sea_k {s i : Nat} {lo : Nat → Nat} (h : s.testBit i = false) : updN (seaL i s lo) i (seaL i s lo i) = seaL (i + 1) s lo := by rw [updN_id, sea_n h]
theorem kp_sea {n s : Nat} {lo fc : Nat → Nat} : kpF n (kpF n lo fc) (seaL n s lo) = lo := kp_back (fun j hj => by unfold seaL; rw [decide_eq_false (show ¬ j < n by omega)]; rfl)
theorem kp_blw {n fo w v : Nat} {we lo fc : Nat → Nat} : kpF n (kpF n lo fc) (blwL n fo we lo w v) = lo := kp_back (fun j hj => by unfold blwL; rw [decide_eq_false (show ¬ j < n by omega)]; rfl)
/-! blow: from the greatest force down -/
def dnO (P : Nat → Bool) (i : Nat) : Option Nat := firstV (fun v => decide (i ≤ v) && P v) 11
theorem dn_11 {P : Nat → Bool} : dnO P 11 = none := firstV_none (fun v hv => by rw [decide_eq_false (show ¬ 11 ≤ v by omega)]; rfl)
theorem dn_0 {P : Nat → Bool} : dnO P 0 = firstV P 11 := by
  unfold dnO
  congr 1
theorem dn_y {P : Nat → Bool} {m : Nat} (hm : m < 11) (h : P m = true) : dnO P m = some m :=
  firstV_some (fun v hv => by rw [decide_eq_false (show ¬ m ≤ v by omega)]; rfl) (by rw [decide_eq_true (Nat.le_refl m), h]; rfl) hm
theorem dn_n {P : Nat → Bool} {m : Nat} (h : P m = false) : dnO P m = dnO P (m + 1) := by
  unfold dnO
  congr 1
  funext v
  by_cases hv : v = m
  · subst hv; rw [h, Bool.and_false, Bool.and_false]
  · congr 2
    apply propext
    omega
def im1 (i : Nat) : Int := (i : Int) - 1
theorem zI_s {m : Nat} : zI (im1 (m + 1)) = nI m := by
  unfold im1
  rw [show ((m + 1 : Nat) : Int) - 1 = (m : Int) by omega]; rfl
theorem zI_m1 {m : Nat} : zI (im1 (m + 1)) + (-1) = zI (im1 m) := by
  rw [zI_s]
  show zI (m : Int) + zI (-1) = _
  rw [zI_add]; rfl
theorem zI_lt {i : Nat} (hi : i ≤ 11) (h : (zI (im1 i)).toInt < 0) : i = 0 := by
  unfold im1 at h
  rw [zI_toInt (by omega) (by omega)] at h
  omega
theorem zI_ge {i : Nat} (hi : i ≤ 11) (h : ¬ (zI (im1 i)).toInt < 0) : ∃ m, i = m + 1 := by
  unfold im1 at h
  rw [zI_toInt (by omega) (by omega)] at h
  exact ⟨i - 1, by omega⟩
/-! what readings leave -/
def arS (ki we : Nat → Nat) (rc rv : Nat → Nat) (r : Nat) : Bool := decide (vtA (ki (rc r)) (we (rc r)) = rv r)
theorem ar_w {ki we rc rv : Nat → Nat} {j w rd : Nat} : allB (arS ki (updN we j w) rc rv) rd = asoB rd rc rv ki we j (ki j) w := by
  unfold asoB
  congr 1
  funext r
  unfold arS isSo updN
  by_cases h : rc r = j
  · rw [if_pos h, if_pos h, h]
  · rw [if_neg h, if_neg h]
theorem ar_k {ki we rc rv : Nat → Nat} {j w rd : Nat} : allB (arS (updN ki j w) we rc rv) rd = asoB rd rc rv ki we j w (we j) := by
  unfold asoB
  congr 1
  funext r
  unfold arS isSo updN
  by_cases h : rc r = j
  · rw [if_pos h, if_pos h, h]
  · rw [if_neg h, if_neg h]
theorem updN_up {f g : Nat → Nat} {j v : Nat} (h : ∀ x, ¬ x = j → g x = f x) : updN g j v = updN f j v := by
  funext x
  unfold updN
  split
  · rfl
  · rename_i hx; exact h x hx
theorem updN_b {f : Nat → Nat} {j v b : Nat} (h : ∀ x, f x ≤ b) (hv : v ≤ b) : ∀ x, updN f j v x ≤ b := by
  intro x
  unfold updN
  split
  · exact hv
  · exact h x
theorem allB_s {P : Nat → Bool} {i : Nat} : allB P (i + 1) = (allB P i && P i) := rfl
section PW2
variable {n fo : Nat} {ki st we : Nat → Nat} {t i : Nat}
theorem pw_b (h : i.testBit t = true) : pwP n fo ki st we t i = false := by
  unfold pwP
  rw [h]; rfl
theorem pw_z (h1 : i.testBit t = false) (h2 : 2 * pwT n fo ki st we i ≤ pwT n fo ki st we 15) (h3 : pwT n fo ki st we 15 < 2 * pwT n fo ki st we (i ||| 2 ^ t)) : pwP n fo ki st we t i = true := by
  unfold pwP
  rw [h1, decide_eq_true h2, decide_eq_true h3]; rfl
end PW2
/-- by how much a set of chairs wins against the others -/
def mrT (fo : Nat) (ki we : Nat → Nat) (s j : Nat) : Int := if s.testBit j then (voN fo ki we j : Int) else -(voN fo ki we j : Int)
def mrZ (n fo : Nat) (ki we : Nat → Nat) (s : Nat) : Int := sumZ (mrT fo ki we s) n
theorem mr_y {i fo : Nat} {ki we : Nat → Nat} {s : Nat} (h : s.testBit i = true) : zI (mrZ i fo ki we s) + nI (voN fo ki we i) = zI (mrZ (i + 1) fo ki we s) := by
  show zI _ + zI (voN fo ki we i : Int) = _
  rw [zI_add]
  show _ = zI (sumZ (mrT fo ki we s) i + mrT fo ki we s i)
  unfold mrT
  rw [if_pos h]; rfl
theorem mr_n {i fo : Nat} {ki we : Nat → Nat} {s : Nat} (h : s.testBit i = false) : zI (mrZ i fo ki we s) + -nI (voN fo ki we i) = zI (mrZ (i + 1) fo ki we s) := by
  rw [← zI_neg, zI_add]
  show _ = zI (sumZ (mrT fo ki we s) i + mrT fo ki we s i)
  unfold mrT
  rw [if_neg (by rw [h]; decide)]; rfl
theorem mrZ_vi {fo : Nat} {ki we : Nat → Nat} {s : Nat} : ∀ m, mrZ m fo ki we s = 2 * (sumN (viN s fo ki we) m : Int) - (sumN (voN fo ki we) m : Int)
  | 0 => rfl
  | m + 1 => by
    have h := mrZ_vi (fo := fo) (ki := ki) (we := we) (s := s) m
    show mrZ m fo ki we s + mrT fo ki we s m = 2 * ((sumN (viN s fo ki we) m + viN s fo ki we m : Nat) : Int) - ((sumN (voN fo ki we) m + voN fo ki we m : Nat) : Int)
    rw [h]
    unfold mrT viN
    cases hb : s.testBit m
    · simp; omega
    · simp; omega

/-! odds: all ways, and the ways of the chairs that are not folded -/
theorem cnt_add (P : Nat → Bool) (a : Nat) : ∀ b, cntN P (a + b) = cntN P a + cntN (fun s => P (a + s)) b
  | 0 => rfl
  | b + 1 => by
    have h := cnt_add P a b
    show cntN P (a + b) + (if P (a + b) then 1 else 0) = cntN P a + (cntN (fun s => P (a + s)) b + (if P (a + b) then 1 else 0))
    omega
theorem cnt_two (P : Nat → Bool) (n : Nat) : cntN P (2 ^ (n + 1)) = cntN P (2 ^ n) + cntN (fun s => P (2 ^ n + s)) (2 ^ n) := by
  rw [Nat.pow_succ, Nat.mul_two, cnt_add]
theorem cnt_congr {P Q : Nat → Bool} : ∀ {m : Nat}, (∀ s, s < m → P s = Q s) → cntN P m = cntN Q m
  | 0, _ => rfl
  | m + 1, h => by
    show cntN P m + (if P m then 1 else 0) = cntN Q m + (if Q m then 1 else 0)
    rw [cnt_congr (fun s hs => h s (by omega)), h m (by omega)]
theorem cnt_f : ∀ m : Nat, cntN (fun _ => false) m = 0
  | 0 => rfl
  | m + 1 => cnt_f m
theorem cnt_t : ∀ m : Nat, cntN (fun _ => true) m = m
  | 0 => rfl
  | m + 1 => by
    show cntN (fun _ => true) m + 1 = m + 1
    rw [cnt_t m]
theorem bit_top {n s : Nat} (hs : s < 2 ^ n) : (2 ^ n + s).testBit n = true := by
  rw [Nat.testBit_two_pow_add_eq, Nat.testBit_lt_two_pow hs]; rfl
theorem bit_low {n s j : Nat} (hj : j < n) : (2 ^ n + s).testBit j = s.testBit j := Nat.testBit_two_pow_add_gt hj s
/-- turning one bit over -/
theorem xor_top {n s : Nat} (hs : s < 2 ^ n) : s ^^^ 2 ^ n = 2 ^ n + s := by
  apply Nat.eq_of_testBit_eq
  intro j
  rw [Nat.testBit_xor, Nat.testBit_two_pow]
  rcases Nat.lt_trichotomy j n with h | h | h
  · rw [bit_low h, decide_eq_false (by omega), Bool.xor_false]
  · subst h
    rw [bit_top hs, Nat.testBit_lt_two_pow hs, decide_eq_true rfl]; rfl
  · have h1 : s < 2 ^ j := Nat.lt_of_lt_of_le hs (Nat.pow_le_pow_right (by decide) (by omega))
    have h2 : 2 ^ n + s < 2 ^ j := by
      have := Nat.pow_le_pow_right (n := 2) (by decide) (show n + 1 ≤ j by omega)
      rw [Nat.pow_succ] at this
      omega
    rw [Nat.testBit_lt_two_pow h1, Nat.testBit_lt_two_pow h2, decide_eq_false (by omega)]; rfl
theorem xor_top2 {n s : Nat} (hs : s < 2 ^ n) : (2 ^ n + s) ^^^ 2 ^ n = s := by
  rw [← xor_top hs, Nat.xor_assoc, Nat.xor_self, Nat.xor_zero]
theorem xor_low {n s k : Nat} (hs : s < 2 ^ n) (hk : k < n) : (2 ^ n + s) ^^^ 2 ^ k = 2 ^ n + (s ^^^ 2 ^ k) := by
  have h : s ^^^ 2 ^ k < 2 ^ n := Nat.xor_lt_two_pow hs (Nat.pow_lt_pow_right (by decide) hk)
  rw [← xor_top hs, ← xor_top h, Nat.xor_assoc, Nat.xor_assoc, Nat.xor_comm (2 ^ n)]
theorem cnt_xor {k : Nat} : ∀ {n : Nat} {P : Nat → Bool}, k < n → cntN (fun s => P (s ^^^ 2 ^ k)) (2 ^ n) = cntN P (2 ^ n)
  | n + 1, P, hk => by
    rw [cnt_two, cnt_two P n]
    by_cases h : k = n
    · subst h
      rw [cnt_congr (P := fun s => P (s ^^^ 2 ^ k)) (Q := fun s => P (2 ^ k + s)) (fun s hs => by rw [xor_top hs]),
        cnt_congr (P := fun s => P ((2 ^ k + s) ^^^ 2 ^ k)) (Q := P) (fun s hs => by rw [xor_top2 hs])]
      omega
    · have hk : k < n := by omega
      rw [cnt_xor hk, cnt_congr (P := fun s => P ((2 ^ n + s) ^^^ 2 ^ k)) (Q := fun s => P (2 ^ n + (s ^^^ 2 ^ k))) (fun s hs => by rw [xor_low hs hk]),
        cnt_xor (P := fun s => P (2 ^ n + s)) hk]
theorem and_top {n s fo : Nat} (hs : s < 2 ^ n) : decide ((2 ^ n + s) &&& fo = 0) = (!fo.testBit n && decide (s &&& fo = 0)) := by
  cases hf : fo.testBit n with
  | true =>
    refine decide_eq_false (fun h => ?_)
    have e := congrArg (fun x => x.testBit n) h
    simp only [Nat.testBit_and, bit_top hs, hf, Nat.zero_testBit] at e
    cases e
  | false =>
    show _ = decide _
    congr 1
    apply propext
    constructor
    · intro h
      apply Nat.eq_of_testBit_eq
      intro j
      have e := congrArg (fun x => x.testBit j) h
      simp only [Nat.testBit_and, Nat.zero_testBit] at e ⊢
      rcases Nat.lt_trichotomy j n with q | q | q
      · rwa [bit_low q] at e
      · subst q; rw [hf, Bool.and_false]
      · rw [Nat.testBit_lt_two_pow (Nat.lt_of_lt_of_le hs (Nat.pow_le_pow_right (by decide) (by omega))), Bool.false_and]
    · intro h
      apply Nat.eq_of_testBit_eq
      intro j
      have e := congrArg (fun x => x.testBit j) h
      simp only [Nat.testBit_and, Nat.zero_testBit] at e ⊢
      rcases Nat.lt_trichotomy j n with q | q | q
      · rw [bit_low q]; exact e
      · subst q; rw [hf, Bool.and_false]
      · have h2 : 2 ^ n + s < 2 ^ j := by
          have := Nat.pow_le_pow_right (n := 2) (by decide) (show n + 1 ≤ j by omega)
          rw [Nat.pow_succ] at this
          omega
        rw [Nat.testBit_lt_two_pow h2, Bool.false_and]
/-- how many are folded among the first n -/
def fdN (fo n : Nat) : Nat := sumN (fun j => if fo.testBit j then 1 else 0) n
theorem cnt_fold {fo : Nat} : ∀ {n : Nat} {P : Nat → Bool}, (∀ j, j < n → fo.testBit j = true → ∀ s, s < 2 ^ n → P (s ^^^ 2 ^ j) = P s) → cntN P (2 ^ n) = 2 ^ fdN fo n * cntN (fun s => decide (s &&& fo = 0) && P s) (2 ^ n)
  | 0, P, _ => by
    show 0 + (if P 0 then 1 else 0) = 1 * (0 + (if decide (0 &&& fo = 0) && P 0 then 1 else 0))
    rw [Nat.zero_and, decide_eq_true rfl, Bool.true_and, Nat.one_mul]
  | n + 1, P, h => by
    have hp : 2 ^ (n + 1) = 2 ^ n + 2 ^ n := by rw [Nat.pow_succ, Nat.mul_two]
    have h1 := cnt_fold (fo := fo) (n := n) (P := P) (fun j hj hb s hs => h j (by omega) hb s (by omega))
    rw [cnt_two, cnt_two (fun s => decide (s &&& fo = 0) && P s)]
    cases hf : fo.testBit n with
    | true =>
      have e1 : cntN (fun s => P (2 ^ n + s)) (2 ^ n) = cntN P (2 ^ n) := cnt_congr (fun s hs => by rw [← xor_top hs]; exact h n (by omega) hf s (by omega))
      have e2 : cntN (fun s => decide ((2 ^ n + s) &&& fo = 0) && P (2 ^ n + s)) (2 ^ n) = 0 := by
        rw [cnt_congr (Q := fun _ => false) (fun s hs => by rw [and_top hs, hf]; rfl), cnt_f]
      have e3 : fdN fo (n + 1) = fdN fo n + 1 := by
        show fdN fo n + (if fo.testBit n then 1 else 0) = _
        rw [hf]; rfl
      rw [e1, e2, e3, h1, Nat.pow_succ, Nat.add_zero, Nat.mul_right_comm, Nat.mul_two]
    | false =>
      have e1 := cnt_fold (fo := fo) (n := n) (P := fun s => P (2 ^ n + s)) (fun j hj hb s hs => by
        rw [← xor_low hs hj]
        exact h j (by omega) hb (2 ^ n + s) (by omega))
      have e2 : cntN (fun s => decide ((2 ^ n + s) &&& fo = 0) && P (2 ^ n + s)) (2 ^ n) = cntN (fun s => decide (s &&& fo = 0) && P (2 ^ n + s)) (2 ^ n) := cnt_congr (fun s hs => by rw [and_top hs, hf]; rfl)
      have e3 : fdN fo (n + 1) = fdN fo n := by
        show fdN fo n + (if fo.testBit n then 1 else 0) = _
        rw [hf]; rfl
      rw [e1, e2, e3, h1, Nat.mul_add]
theorem sumN_at {f g : Nat → Nat} {k : Nat} : ∀ {n : Nat}, (∀ j, j < n → ¬ j = k → f j = g j) → k < n → sumN f n + g k = sumN g n + f k
  | n + 1, h, hk => by
    show sumN f n + f n + g k = sumN g n + g n + f k
    by_cases hn : k = n
    · subst hn
      rw [sumN_congr (f := f) (g := g) (fun j hj => h j (by omega) (by omega))]
      omega
    · have e := sumN_at (f := f) (g := g) (k := k) (n := n) (fun j hj hne => h j (by omega) hne) (by omega)
      have e2 := h n (by omega) (fun q => hn q.symm)
      omega
theorem bit_xor {s k j : Nat} : (s ^^^ 2 ^ k).testBit j = (s.testBit j ^^ decide (k = j)) := by rw [Nat.testBit_xor, Nat.testBit_two_pow]
theorem bit_xne {s k j : Nat} (h : ¬ j = k) : (s ^^^ 2 ^ k).testBit j = s.testBit j := by rw [bit_xor, decide_eq_false (fun q => h q.symm), Bool.xor_false]
theorem bit_xeq {s k : Nat} : (s ^^^ 2 ^ k).testBit k = !s.testBit k := by rw [bit_xor, decide_eq_true rfl, Bool.xor_true]
section OD
variable {n fo : Nat} {ki we : Nat → Nat}
theorem vi_fold {s j : Nat} (h : fo.testBit j = true) : viT n fo ki we (s ^^^ 2 ^ j) = viT n fo ki we s := by
  unfold viT
  congr 1
  funext x
  unfold viN
  by_cases hx : x = j
  · subst hx
    have e : voN fo ki we x = 0 := by unfold voN; rw [if_pos h]
    rw [e]; split <;> split <;> rfl
  · rw [bit_xne hx]
theorem vi_in {s k : Nat} (hk : k < n) (h : s.testBit k = true) : viT n fo ki we s = viT n fo ki we (s ^^^ 2 ^ k) + voN fo ki we k := by
  have e := sumN_at (f := viN s fo ki we) (g := viN (s ^^^ 2 ^ k) fo ki we) (k := k) (n := n) (fun j hj hne => by unfold viN; rw [bit_xne hne]) hk
  have e1 : viN (s ^^^ 2 ^ k) fo ki we k = 0 := by unfold viN; rw [bit_xeq, h]; rfl
  have e2 : viN s fo ki we k = voN fo ki we k := by unfold viN; rw [if_pos h]
  rw [e1, e2] at e
  exact e
theorem mr_vi {s : Nat} : mrZ n fo ki we s = 2 * (viT n fo ki we s : Int) - (viT n fo ki we (2 ^ n - 1) : Int) := by
  rw [mrZ_vi, viT_all]; rfl
def lowA (fo s : Nat) : Bool := decide (s &&& fo = 0)
def upA (n fo : Nat) (ki we : Nat → Nat) (s : Nat) : Bool := lowA fo s && decide (0 < mrZ n fo ki we s)
def lowK (fo k s : Nat) : Bool := lowA fo s && s.testBit k
def upK (n fo : Nat) (ki we : Nat → Nat) (k s : Nat) : Bool := lowK fo k s && (decide (0 < mrZ n fo ki we s) && decide (mrZ n fo ki we (s ^^^ 2 ^ k) ≤ 0))
theorem od_la : 2 ^ n = 2 ^ fdN fo n * cntN (lowA fo) (2 ^ n) := by
  have h := cnt_fold (fo := fo) (n := n) (P := fun _ => true) (fun _ _ _ _ _ => rfl)
  rw [cnt_t] at h
  rw [h]
  congr 2
  funext s
  unfold lowA
  rw [Bool.and_true]
theorem od_ua : cntN (wtcP n fo ki we) (2 ^ n) = 2 ^ fdN fo n * cntN (upA n fo ki we) (2 ^ n) := by
  rw [cnt_fold (fo := fo) (n := n) (P := wtcP n fo ki we) (fun j _ hb s _ => by unfold wtcP; rw [vi_fold hb])]
  congr 2
  funext s
  unfold upA lowA wtcP
  congr 2
  apply propext
  rw [mr_vi]
  omega
theorem cnt_half {k : Nat} (hk : k < n) : 2 * cntN (fun s => s.testBit k) (2 ^ n) = 2 ^ n := by
  have e1 := cnt_xor (k := k) (n := n) (P := fun s => s.testBit k) hk
  have e2 : cntN (fun s => (s ^^^ 2 ^ k).testBit k) (2 ^ n) = cntN (fun s => !s.testBit k) (2 ^ n) := cnt_congr (fun s _ => bit_xeq)
  have e3 : ∀ m, cntN (fun s => s.testBit k) m + cntN (fun s => !s.testBit k) m = m := by
    intro m
    induction m with
    | zero => rfl
    | succ m ih =>
      show (cntN (fun s => s.testBit k) m + (if m.testBit k then 1 else 0)) + (cntN (fun s => !s.testBit k) m + (if !m.testBit k then 1 else 0)) = m + 1
      cases m.testBit k <;> simp <;> omega
  have e4 := e3 (2 ^ n)
  omega
theorem od_lk {k : Nat} (hk : k < n) (hf : fo.testBit k = false) : 2 ^ n / 2 = 2 ^ fdN fo n * cntN (lowK fo k) (2 ^ n) := by
  have h := cnt_fold (fo := fo) (n := n) (P := fun s => s.testBit k) (fun j _ hb s _ => bit_xne (fun q => by subst q; rw [hf] at hb; cases hb))
  have h2 := cnt_half (n := n) hk
  rw [show 2 ^ n / 2 = cntN (fun s => s.testBit k) (2 ^ n) by omega, h]
  rfl
theorem od_uk {k : Nat} (hk : k < n) (hf : fo.testBit k = false) : cntN (wdbP n fo ki we k) (2 ^ n) = 2 ^ fdN fo n * cntN (upK n fo ki we k) (2 ^ n) := by
  rw [← cnt_xor (k := k) (P := wdbP n fo ki we k) hk, cnt_fold (fo := fo) (n := n) (P := fun s => wdbP n fo ki we k (s ^^^ 2 ^ k)) (fun j _ hb s _ => by
    have hne : ¬ k = j := fun q => by subst q; rw [hf] at hb; cases hb
    unfold wdbP
    rw [show s ^^^ 2 ^ j ^^^ 2 ^ k = s ^^^ 2 ^ k ^^^ 2 ^ j by rw [Nat.xor_assoc, Nat.xor_assoc, Nat.xor_comm (2 ^ j)], vi_fold hb, bit_xne hne])]
  congr 2
  funext s
  unfold upK lowK wdbP
  show (lowA fo s && _) = _
  rw [Bool.and_assoc]
  congr 1
  rw [bit_xeq, Bool.not_not]
  cases hb : s.testBit k with
  | false => rfl
  | true =>
    have e := vi_in (n := n) (fo := fo) (ki := ki) (we := we) hk hb
    rw [Bool.true_and, Bool.true_and, Bool.and_comm]
    congr 2
    · apply propext; rw [mr_vi]; omega
    · apply propext; rw [mr_vi]; omega
theorem sh_mul {c a b v : Nat} (hc : 0 < c) : shN (c * a) (c * b) v = shN a b v := by
  unfold shN
  rw [Nat.gcd_mul_left, Nat.mul_div_mul_left _ _ hc, Nat.mul_div_mul_left _ _ hc]
theorem odds_a {w : Nat} (h1 : decide (0 < n) = true) (h2 : rgB 0 1 (nI w) = true) (h3 : (nI w).toNatClampNeg = w) : A_odds n fo ki we (-1) (nI w) = lN (shN (cntN (upA n fo ki we) (2 ^ n)) (cntN (lowA fo) (2 ^ n)) w) := by
  unfold A_odds
  rw [h1, h2, h3, if_pos (show (true && true) = true from rfl), if_pos (rfl : (-1 : Int32) = -1), od_ua]
  have e := od_la (n := n) (fo := fo)
  generalize cntN (lowA fo) (2 ^ n) = q at e ⊢
  rw [e, sh_mul (Nat.two_pow_pos _)]
theorem odds_k {w k : Nat} (h1 : decide (0 < n) = true) (h2 : rgB 0 1 (nI w) = true) (h3 : (nI w).toNatClampNeg = w) (hk : k < n) (hn : n ≤ 8) (hf : fo.testBit k = false) : A_odds n fo ki we (nI k) (nI w) = lN (shN (cntN (upK n fo ki we k) (2 ^ n)) (cntN (lowK fo k) (2 ^ n)) w) := by
  unfold A_odds
  rw [h1, h2, h3, if_pos (show (true && true) = true from rfl), if_neg (nI_m1 (by omega)), cl8 (j := k) (by omega), hf, hasB_nI (by omega), decide_eq_true hk, if_pos (show (true && !false) = true from rfl), od_uk hk hf, od_lk hk hf, sh_mul (Nat.two_pow_pos _)]
theorem la_pos : 0 < cntN (lowA fo) (2 ^ n) := by
  have h := od_la (n := n) (fo := fo)
  have h2 := Nat.two_pow_pos n
  rcases Nat.eq_zero_or_pos (cntN (lowA fo) (2 ^ n)) with h0 | h0
  · rw [h0, Nat.mul_zero] at h; omega
  · exact h0
theorem lk_pos {k : Nat} (hk : k < n) (hf : fo.testBit k = false) : 0 < cntN (lowK fo k) (2 ^ n) := by
  have h := od_lk hk hf
  have h2 := half_pow (n := n) (by omega)
  have h3 := Nat.two_pow_pos (n - 1)
  rcases Nat.eq_zero_or_pos (cntN (lowK fo k) (2 ^ n)) with h0 | h0
  · rw [h0, Nat.mul_zero] at h; omega
  · exact h0
theorem mr_b {s : Nat} (hwe : ∀ j, we j ≤ 9) (hn : n ≤ 8) : -80 ≤ mrZ n fo ki we s ∧ mrZ n fo ki we s ≤ 80 := by
  have h1 := viT_le (fo := fo) (ki := ki) hwe hn s
  have h2 := viT_le (fo := fo) (ki := ki) hwe hn (2 ^ n - 1)
  have h3 : viT n fo ki we s ≤ viT n fo ki we (2 ^ n - 1) := by
    rw [viT_all]
    unfold viT
    clear h1 h2
    induction n with
    | zero => exact Nat.le_refl _
    | succ m ih =>
      show sumN (viN s fo ki we) m + viN s fo ki we m ≤ sumN (voN fo ki we) m + voN fo ki we m
      have e : viN s fo ki we m ≤ voN fo ki we m := by unfold viN; split <;> omega
      have := ih (by omega)
      omega
  rw [mr_vi]
  omega
end OD
section OD2
variable {n fo : Nat} {ki we : Nat → Nat} {k s : Nat}
theorem la_n (h : ¬ s &&& fo = 0) : lowA fo s = false := decide_eq_false h
theorem la_y (h : s &&& fo = 0) : lowA fo s = true := decide_eq_true h
theorem lk_n (h : ¬ s &&& fo = 0) : lowK fo k s = false := by unfold lowK; rw [la_n h]; rfl
theorem lk_b (h : s.testBit k = false) : lowK fo k s = false := by unfold lowK; rw [h, Bool.and_false]
theorem lk_y (h : s &&& fo = 0) (h2 : s.testBit k = true) : lowK fo k s = true := by unfold lowK; rw [la_y h, h2]; rfl
theorem ua_l (h : lowA fo s = false) : upA n fo ki we s = false := by unfold upA; rw [h]; rfl
theorem uk_l (h : lowK fo k s = false) : upK n fo ki we k s = false := by unfold upK; rw [h]; rfl
theorem ua_m (h : ¬ 0 < mrZ n fo ki we s) : upA n fo ki we s = false := by unfold upA; rw [decide_eq_false h, Bool.and_false]
theorem uk_m (h : ¬ 0 < mrZ n fo ki we s) : upK n fo ki we k s = false := by unfold upK; rw [decide_eq_false h, Bool.false_and, Bool.and_false]
theorem uk_x (h : ¬ mrZ n fo ki we (s ^^^ 2 ^ k) ≤ 0) : upK n fo ki we k s = false := by unfold upK; rw [decide_eq_false h, Bool.and_false, Bool.and_false]
theorem ua_y (h : lowA fo s = true) (h2 : 0 < mrZ n fo ki we s) : upA n fo ki we s = true := by unfold upA; rw [h, decide_eq_true h2]; rfl
theorem uk_y (h : lowK fo k s = true) (h2 : 0 < mrZ n fo ki we s) (h3 : mrZ n fo ki we (s ^^^ 2 ^ k) ≤ 0) : upK n fo ki we k s = true := by unfold upK; rw [h, decide_eq_true h2, decide_eq_true h3]; rfl
theorem mz_t (hwe : ∀ j, we j ≤ 9) (hn : n ≤ 8) : (zI (mrZ n fo ki we s)).toInt = mrZ n fo ki we s := by
  have h := mr_b (fo := fo) (ki := ki) (s := s) hwe hn
  exact zI_toInt (by omega) (by omega)
theorem mz_le (hwe : ∀ j, we j ≤ 9) (hn : n ≤ 8) (h : (zI (mrZ n fo ki we s)).toInt ≤ ((0 : Nat) : Int)) : ¬ 0 < mrZ n fo ki we s := by
  rw [mz_t hwe hn] at h; omega
theorem mz_gt2 (hwe : ∀ j, we j ≤ 9) (hn : n ≤ 8) (h : ¬ (zI (mrZ n fo ki we s)).toInt ≤ ((0 : Nat) : Int)) : 0 < mrZ n fo ki we s := by
  rw [mz_t hwe hn] at h; omega
theorem mz_gt (hwe : ∀ j, we j ≤ 9) (hn : n ≤ 8) (h : ((0 : Nat) : Int) < (zI (mrZ n fo ki we s)).toInt) : ¬ mrZ n fo ki we s ≤ 0 := by
  rw [mz_t hwe hn] at h; omega
theorem mz_le2 (hwe : ∀ j, we j ≤ 9) (hn : n ≤ 8) (h : ¬ ((0 : Nat) : Int) < (zI (mrZ n fo ki we s)).toInt) : mrZ n fo ki we s ≤ 0 := by
  rw [mz_t hwe hn] at h; omega
end OD2

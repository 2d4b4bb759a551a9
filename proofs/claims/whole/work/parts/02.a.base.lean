/-! ===== small words: a Bool as an int, arrays of small numbers, address lists ===== -/
def bI (b : Bool) : Int32 := match b with
  | true => 1
  | false => 0
theorem bI_0 {b : Bool} : bI b = 0 ↔ b = false := by cases b <;> simp [bI]
theorem bI_n0 {b : Bool} : ¬ bI b = 0 ↔ b = true := by cases b <;> simp [bI]
theorem bI_nar {b : Bool} : narrow .boolean (.int (bI b)) = .int (bI b) := by cases b <;> rfl
def aI (f : Nat → Nat) : Nat → Int32 := fun j => nI (f j)
def updN (f : Nat → Nat) (k v : Nat) : Nat → Nat := fun j => if j = k then v else f j
theorem upd_aI {f : Nat → Nat} {k v : Nat} : upd (aI f) k (nI v) = aI (updN f k v) := by
  funext j
  simp only [upd, aI, updN]
  split <;> rfl
theorem nI0 : nI 0 = 0 := rfl
theorem nI1 : nI 1 = 1 := rfl
/-- addresses apart -/
def nd (l : List Nat) : Prop := ∀ (i j a : Nat), l[i]? = some a → l[j]? = some a → i = j
theorem nd.sub {l l' : List Nat} (h : nd l) (is : List Nat) (hn : va_nd is = true) (hs : is.map (fun i => l[i]?) = l'.map some) : nd l' := by
  intro i j a h1 h2
  have key : ∀ (k b : Nat), l'[k]? = some b → ∃ x : Nat, is[k]? = some x ∧ l[x]? = some b := by
    intro k b hk
    have e : (is.map (fun i => l[i]?))[k]? = some (some b) := by rw [hs, List.getElem?_map, hk]; rfl
    rw [List.getElem?_map] at e
    cases hi : is[k]? with
    | none => rw [hi] at e; cases e
    | some x => rw [hi] at e; exact ⟨x, rfl, Option.some.inj e⟩
  obtain ⟨x, a1, a2⟩ := key i a h1
  obtain ⟨y, b1, b2⟩ := key j a h2
  have := h x y a a2 b2
  subst this
  exact va_nd_inj is hn i j x a1 b1
def AW (as : List Nat) : Nat → Prop := fun q => q ∈ as
theorem nd.D {w : va_W} {as : List Nat} (h : nd as) (e : w.map Prod.fst = as) : va_D (AW as) w := by
  subst e
  refine ⟨fun i j p q h1 h2 hpq => ?_, fun k q hk => ?_⟩
  · refine h i j p.1 ?_ ?_
    · rw [List.getElem?_map, h1]; rfl
    · rw [List.getElem?_map, h2, hpq]; rfl
  · exact List.mem_map.mpr ⟨q, List.mem_of_getElem? hk, rfl⟩
theorem va_D.re {A : Nat → Prop} {w w' : va_W} (h : va_D A w) (e : w'.map Prod.fst = w.map Prod.fst) : va_D A w' := by
  have key : ∀ (k : Nat) (q : Nat × va_E), w'[k]? = some q → ∃ q0, w[k]? = some q0 ∧ q0.1 = q.1 := by
    intro k q hk
    have e1 : (w'.map Prod.fst)[k]? = some q.1 := by rw [List.getElem?_map, hk]; rfl
    rw [e, List.getElem?_map] at e1
    cases hw : w[k]? with
    | none => rw [hw] at e1; cases e1
    | some q0 => rw [hw] at e1; exact ⟨q0, rfl, Option.some.inj e1⟩
  refine ⟨fun i j x y hi hj hxy => ?_, fun k q hk => ?_⟩
  · obtain ⟨x0, h1, h2⟩ := key i x hi
    obtain ⟨y0, h3, h4⟩ := key j y hj
    exact h.1 i j x0 y0 h1 h3 (h2.trans (hxy.trans h4.symm))
  · obtain ⟨q0, h1, h2⟩ := key k q hk
    rw [← h2]
    exact h.2 k q0 h1
/-- some cells of a world replaced -/
def xset : va_W → List Nat → va_W → va_W
  | ws, i :: is, x :: xs => xset (ws.set i x) is xs
  | ws, _, _ => ws
theorem xset_get : ∀ (is : List Nat) (xs ws : va_W), is.length = xs.length → ∀ (k : Nat) (q : Nat × va_E), (xset ws is xs)[k]? = some q → (∃ j : Nat, xs[j]? = some q) ∨ (k ∉ is ∧ ws[k]? = some q)
  | [], xs, ws, _, k, q, h => by
    cases xs with
    | nil => exact Or.inr ⟨List.not_mem_nil, h⟩
    | cons x xs => exact Or.inr ⟨List.not_mem_nil, h⟩
  | i :: is, [], ws, hl, k, q, h => by cases hl
  | i :: is, x :: xs, ws, hl, k, q, h => by
    have hl' : is.length = xs.length := by simpa using hl
    rcases xset_get is xs (ws.set i x) hl' k q h with ⟨j, hj⟩ | ⟨h1, h2⟩
    · exact Or.inl ⟨j + 1, by simpa using hj⟩
    · by_cases hk : k = i
      · subst hk
        rw [List.getElem?_set] at h2
        simp only [if_true] at h2
        split at h2
        · cases h2
          exact Or.inl ⟨0, rfl⟩
        · cases h2
      · rw [List.getElem?_set_ne (Ne.symm hk)] at h2
        exact Or.inr ⟨by simp [hk, h1], h2⟩
theorem xset_len : ∀ (is : List Nat) (xs ws : va_W), (xset ws is xs).length = ws.length
  | [], xs, ws => by cases xs <;> rfl
  | i :: is, [], ws => rfl
  | i :: is, x :: xs, ws => by
    show (xset (ws.set i x) is xs).length = _
    rw [xset_len is xs]; simp
theorem xset_fst : ∀ (is : List Nat) (xs ws : va_W), is.map (fun i => (ws.map Prod.fst)[i]?) = (xs.map Prod.fst).map some → (xset ws is xs).map Prod.fst = ws.map Prod.fst
  | [], xs, ws, _ => by cases xs <;> rfl
  | i :: is, [], ws, h => rfl
  | i :: is, x :: xs, ws, h => by
    simp only [List.map_cons, List.cons.injEq] at h
    have e : (ws.set i x).map Prod.fst = ws.map Prod.fst := by
      rw [List.map_set]
      apply List.ext_getElem?
      intro n
      rw [List.getElem?_set]
      split
      · subst_vars
        split
        · exact h.1.symm
        · rename_i hh
          rw [List.getElem?_eq_none (by simpa using hh)]
      · rfl
    show (xset (ws.set i x) is xs).map Prod.fst = _
    rw [xset_fst is xs (ws.set i x) (by rw [e]; exact h.2), e]
/-! ===== what is known of the machine all along: classes, arrays' classes, the two links of Row to its host ===== -/
def Gk (D : va_G) (cI cS : ClassId) (U : State) : Prop := va_K D vwCl [(cI, .int), (cS, .object "ChairBallot$Sheet")] U ∧ va_Nw (.methodLinkNest RX0 41 yX2_votesAs RX2) U ∧ va_Nw (.methodLinkNest RX0 70 yX2_isIn RX2) U
theorem Gk.warm {D : va_G} {cI cS : ClassId} {s U : State} (hW : s.WarmedH U.vm) (h : Gk D cI cS s) : Gk D cI cS U := ⟨va_K.moved hW.alike h.1, va_Nw.warmM hW h.2.1, va_Nw.warmM hW h.2.2⟩
theorem Gk.same {D : va_G} {cI cS : ClassId} {s U : State} (e : s.vm = U.vm) (h : Gk D cI cS s) : Gk D cI cS U := ⟨va_K.moved (by rw [e]; exact Vm.Alike.refl U.vm) h.1, va_Nw.same rfl e h.2.1, va_Nw.same rfl e h.2.2⟩
def PR (D : va_G) (cI cS : ClassId) (as : List Value) (w : va_W) : Array Value → State → Prop := va_Pc as (fun U => Gk D cI cS U ∧ va_P D vwCl w U.heap)
theorem PR.blind (D : va_G) (cI cS : ClassId) (as : List Value) (w : va_W) : FrameBlind (PR D cI cS as w) := fun _ U g mk h => ⟨h.1, Gk.same (U := U.calling g mk _) rfl h.2.1, h.2.2⟩
theorem PR.pre {D : va_G} {cI cS : ClassId} {as : List Value} {w : va_W} {s : State} {H : Heap} (hG : Gk D cI cS s) (hP : va_P D vwCl w H) : PreS s H (PR D cI cS as w) as := ⟨PR.blind D cI cS as w, fun U hU hW => ⟨rfl, Gk.warm hW hG, by rw [hU]; exact hP⟩⟩
theorem PR.preV {D : va_G} {cI cS : ClassId} {b : Nat} {As : List Value} {w : va_W} {s : State} {H : Heap} (hG : Gk D cI cS s) (hP : va_P D vwCl w H) {ci : Nat} {fs : List Value} {q : vw_C} (hc : vwCl[ci]? = some q) (he : w[0]? = some (b, .inr (ci, fs))) : PreV s H q.1 b (PR D cI cS (.ref b :: As) w) As := ⟨PR.blind D cI cS _ w, va_recv hG.1 hP hc he, fun U hU hW => ⟨rfl, Gk.warm hW hG, by rw [hU]; exact hP⟩⟩
/-! ===== a method's start ===== -/
theorem startR {l : Launch} {y : MethodName} {ws ws' : List Cond} {rm : Room} {D : va_G} {cI cS : ClassId} {as : List Value} {w : va_W} {Qc : Array Value → State → Outcome → State → Prop} {free : Addr → Prop} {cc : ByteArray} {maxL : Nat} {ret : Option FieldType}
    (hy : plainName y.cls = true) (hw : ws = Cond.code y cc maxL ret :: ws') (hn : (lg_sl as).length ≤ maxL)
    (body : ∀ (p : Program) (e : Env) (s : State) (m : MethodId) (below : List Frame) (meth : Method) (c : Code), p.tables.exec = Jvm.exec → c.code = cc → meth.sig.returnType = ret → (∀ w ∈ ws, w.before as.toArray s = true) → s.vm.findClass y.cls = some m.cls → meth.locks = false → c.maxLocals = maxL → Gk D cI cS s → va_P D vwCl w s.heap →
      ∀ ls : Array Slot, lv_has ls maxL (lv_args 0 as) → W p l e rm s m as.toArray below meth c s.heap [] 0 0 (MQ below Qc as.toArray s 0 0 free) (F0 m 0 ls [])) :
    Met l y ws rm (PR D cI cS as w) Qc 0 0 free := by
  refine Met.ofW (cc := cc) (maxL := maxL) (ret := ret) hy hw ?_
  intro p e s m args below meth c s₁ B hml hv
  obtain ⟨rfl, hG, hP⟩ := hv
  have hl := lv_entry as (n := maxL) hn
  rw [lg_entry_eq]
  exact body p e s m below meth c B.exec B.bytes B.returns (atoms_spec (ws := ws) B.pre) (findClass_of_methodNamed B.named) B.notSynchronized hml hG hP _ hl
theorem startM {l : Launch} {y : MethodName} {ws ws' : List Cond} {rm : Room} {D : va_G} {cI cS : ClassId} {as : List Value} {w : va_W} {Qc : Array Value → State → Outcome → State → Prop} {ad : List Nat} {cc : ByteArray} {maxL : Nat} {ret : Option FieldType}
    (hy : plainName y.cls = true) (hw : ws = Cond.code y cc maxL ret :: ws') (hn : (lg_sl as).length ≤ maxL) (hnd : nd ad) (had : w.map Prod.fst = ad)
    (body : ∀ (p : Program) (e : Env) (s : State) (m : MethodId) (below : List Frame) (meth : Method) (c : Code), p.tables.exec = Jvm.exec → c.code = cc → meth.sig.returnType = ret → (∀ w ∈ ws, w.before as.toArray s = true) → s.vm.findClass y.cls = some m.cls → meth.locks = false → c.maxLocals = maxL → Gk D cI cS s → va_P D vwCl w s.heap → va_D (AW ad) w → va_S (AW ad) s.heap s.heap [] →
      ∀ ls : Array Slot, lv_has ls maxL (lv_args 0 as) → W p l e rm s m as.toArray below meth c s.heap [] 0 0 (MQ below Qc as.toArray s 0 0 (AW ad)) (F0 m 0 ls [])) :
    Met l y ws rm (PR D cI cS as w) Qc 0 0 (AW ad) :=
  startR hy hw hn fun p e s m below meth c hx hb hr hts hown hlk hml hG hP ls hl => body p e s m below meth c hx hb hr hts hown hlk hml hG hP (hnd.D had) va_S.rf ls hl
section XL
variable {p : Program} {l : Launch} {e : Env} {R : Room} {s : State} {m : MethodId} {args : Array Value} {below : List Frame} {meth : Method} {c : Code} {H : Heap} {locs : List Loc} {cells slots : Nat} {Q : State → Prop}
variable {cc : ByteArray} {pc : Nat} {ls : Array Slot} {rest : List Value} {D : va_G} {cI cS : ClassId} {A : Nat → Prop} {a : Nat} {ws : va_W} {H0 : Heap}
/-! ===== a method's end ===== -/
theorem xretR {v v' : Int32} {free : Addr → Prop} (hx : p.tables.exec = Jvm.exec) (hb : c.code = cc) (hr : meth.sig.returnType = some .int) (hlk : meth.locks = false) (hdg : decode cc pc = .ok (.ireturn, 1)) (hv : v = v') : W p l e R s m args below meth c s.heap [] cells slots (MQ below (vp_Si (fun r => r = v')) args s cells slots free) (F0 m pc ls [.int v]) :=
  W.iret (v := v) hx hb hr (fun t ht _ => ⟨v, rfl, hv, ht⟩) (fun _ h => by cases h) hdg hlk
theorem xretRz {v v' : Int32} {free : Addr → Prop} (hx : p.tables.exec = Jvm.exec) (hb : c.code = cc) (hr : meth.sig.returnType = some .boolean) (hlk : meth.locks = false) (hdg : decode cc pc = .ok (.ireturn, 1)) (b : Bool) (hv : v = bI b) (hv' : v = v') : W p l e R s m args below meth c s.heap [] cells slots (MQ below (vp_Si (fun r => r = v')) args s cells slots free) (F0 m pc ls [.int v]) :=
  W.zret (v := v) hx hb hr (by rw [hv]; exact bI_nar) (fun t ht _ => ⟨v, rfl, hv', ht⟩) (fun _ h => by cases h) hdg hlk
theorem xretRl {v v' : Int64} {free : Addr → Prop} (hx : p.tables.exec = Jvm.exec) (hb : c.code = cc) (hr : meth.sig.returnType = some .long) (hlk : meth.locks = false) (hdg : decode cc pc = .ok (.lreturn, 1)) (hv : v = v') : W p l e R s m args below meth c s.heap [] cells slots (MQ below (vp_Sl (fun r => r = v')) args s cells slots free) (F0 m pc ls [.long v]) :=
  W.lret (v := v) hx hb hr (fun t ht _ => ⟨v, rfl, hv, ht⟩) (fun _ h => by cases h) hdg hlk
theorem xretM {S : Type} {post : Int32 → S → Prop} {B : S → State → Prop} {v : Int32} (hx : p.tables.exec = Jvm.exec) (hb : c.code = cc) (hr : meth.sig.returnType = some .int) (hlk : meth.locks = false) (hdg : decode cc pc = .ok (.ireturn, 1)) (hS : va_S A s.heap H locs) (u : S) (hp : post v u) (hB : ∀ t : State, t.heap = H → B u t) : W p l e R s m args below meth c H locs cells slots (MQ below (va_Qi post B A) args s cells slots A) (F0 m pc ls [.int v]) :=
  W.iret (v := v) hx hb hr (fun t ht _ => ⟨⟨v, u, rfl, hp, hB t ht⟩, hS.F ht⟩) hS.2.2 hdg hlk
theorem xretMz {S : Type} {post : Int32 → S → Prop} {B : S → State → Prop} {v : Int32} (hx : p.tables.exec = Jvm.exec) (hb : c.code = cc) (hr : meth.sig.returnType = some .boolean) (hlk : meth.locks = false) (hdg : decode cc pc = .ok (.ireturn, 1)) (hS : va_S A s.heap H locs) (b : Bool) (hv : v = bI b) (u : S) (hp : post v u) (hB : ∀ t : State, t.heap = H → B u t) : W p l e R s m args below meth c H locs cells slots (MQ below (va_Qi post B A) args s cells slots A) (F0 m pc ls [.int v]) :=
  W.zret (v := v) hx hb hr (by rw [hv]; exact bI_nar) (fun t ht _ => ⟨⟨v, u, rfl, hp, hB t ht⟩, hS.F ht⟩) hS.2.2 hdg hlk
theorem xretMl {S : Type} {post : Int64 → S → Prop} {B : S → State → Prop} {v : Int64} (hx : p.tables.exec = Jvm.exec) (hb : c.code = cc) (hr : meth.sig.returnType = some .long) (hlk : meth.locks = false) (hdg : decode cc pc = .ok (.lreturn, 1)) (hS : va_S A s.heap H locs) (u : S) (hp : post v u) (hB : ∀ t : State, t.heap = H → B u t) : W p l e R s m args below meth c H locs cells slots (MQ below (va_Ql post B A) args s cells slots A) (F0 m pc ls [.long v]) :=
  W.lret (v := v) hx hb hr (fun t ht _ => ⟨⟨v, u, rfl, hp, hB t ht⟩, hS.F ht⟩) hS.2.2 hdg hlk
theorem xretMv {S : Type} {post : S → Prop} {B : S → State → Prop} (hx : p.tables.exec = Jvm.exec) (hb : c.code = cc) (hr : meth.sig.returnType = none) (hlk : meth.locks = false) (hdg : decode cc pc = .ok (.return_, 1)) (hS : va_S A s.heap H locs) (u : S) (hp : post u) (hB : ∀ t : State, t.heap = H → B u t) : W p l e R s m args below meth c H locs cells slots (MQ below (va_Qv post B A) args s cells slots A) (F0 m pc ls []) :=
  W.vret hx hb hr (fun t ht _ => ⟨⟨u, rfl, hp, hB t ht⟩, hS.F ht⟩) hS.2.2 hdg hlk
/-! ===== arrays ===== -/
theorem xald (hx : p.tables.exec = Jvm.exec) (hb : c.code = cc) (hG : Gk D cI cS s) (hP : va_P D vwCl ws H) (q0 : Nat) {n : Nat} {f : Nat → Int32} (ha : ws[q0]? = some (a, .inl (cI, n, .inl f))) {i : Int32} (j : Nat) (e0 : i = nI j) (hj : j < n) (hn : n < 2 ^ 31) (hdg : decode cc pc = .ok (.iaload, 1))
    (kk : W p l e R s m args below meth c H locs cells slots Q (F0 m (pc + 1) ls (.int (f j) :: rest))) : W p l e R s m args below meth c H locs cells slots Q (F0 m pc ls (.int i :: .ref a :: rest)) := by
  subst e0
  refine va_iald hx hb hG.1 hP q0 0 ha rfl (vp_in_nI hj hn) hdg ?_
  rw [nI_clamp (Nat.lt_trans hj hn)]
  exact kk
theorem xaldN (hx : p.tables.exec = Jvm.exec) (hb : c.code = cc) (hG : Gk D cI cS s) (hP : va_P D vwCl ws H) (q0 : Nat) {n : Nat} {f : Nat → Nat} (ha : ws[q0]? = some (a, .inl (cI, n, .inl (aI f)))) {i : Int32} (j : Nat) (e0 : i = nI j) (hj : j < n) (hn : n < 2 ^ 31) (hdg : decode cc pc = .ok (.iaload, 1))
    (kk : W p l e R s m args below meth c H locs cells slots Q (F0 m (pc + 1) ls (.int (nI (f j)) :: rest))) : W p l e R s m args below meth c H locs cells slots Q (F0 m pc ls (.int i :: .ref a :: rest)) := xald hx hb hG hP q0 ha j e0 hj hn hdg kk
theorem xast (hx : p.tables.exec = Jvm.exec) (hb : c.code = cc) (hG : Gk D cI cS s) (hP : va_P D vwCl ws H) (hD : va_D A ws) (hS : va_S A H0 H locs) (q0 : Nat) {n : Nat} {f : Nat → Int32} (ha : ws[q0]? = some (a, .inl (cI, n, .inl f))) {i x : Int32} (j : Nat) (e0 : i = nI j) (hj : j < n) (hn : n < 2 ^ 31) (hdg : decode cc pc = .ok (.iastore, 1))
    (kk : ∀ (H1 : Heap) (locs1 : List Loc), va_P D vwCl (ws.set q0 (a, .inl (cI, n, .inl (upd f j x)))) H1 → va_D A (ws.set q0 (a, .inl (cI, n, .inl (upd f j x)))) → va_S A H0 H1 locs1 → W p l e R s m args below meth c H1 locs1 cells slots Q (F0 m (pc + 1) ls rest)) : W p l e R s m args below meth c H locs cells slots Q (F0 m pc ls (.int x :: .int i :: .ref a :: rest)) := by
  subst e0
  refine va_iast hx hb hG.1 hP hD hS q0 0 ha rfl (vp_in_nI hj hn) hdg ?_
  rw [nI_clamp (Nat.lt_trans hj hn)]
  exact kk
theorem xastN (hx : p.tables.exec = Jvm.exec) (hb : c.code = cc) (hG : Gk D cI cS s) (hP : va_P D vwCl ws H) (hD : va_D A ws) (hS : va_S A H0 H locs) (q0 : Nat) {n : Nat} {f : Nat → Nat} (ha : ws[q0]? = some (a, .inl (cI, n, .inl (aI f)))) {i x : Int32} (j v : Nat) (e0 : i = nI j) (e1 : x = nI v) (hj : j < n) (hn : n < 2 ^ 31) (hdg : decode cc pc = .ok (.iastore, 1))
    (kk : ∀ (H1 : Heap) (locs1 : List Loc), va_P D vwCl (ws.set q0 (a, .inl (cI, n, .inl (aI (updN f j v))))) H1 → va_D A (ws.set q0 (a, .inl (cI, n, .inl (aI (updN f j v))))) → va_S A H0 H1 locs1 → W p l e R s m args below meth c H1 locs1 cells slots Q (F0 m (pc + 1) ls rest)) : W p l e R s m args below meth c H locs cells slots Q (F0 m pc ls (.int x :: .int i :: .ref a :: rest)) := by
  subst e1
  refine xast hx hb hG hP hD hS q0 ha j e0 hj hn hdg ?_
  rw [upd_aI]
  exact kk
/-! ===== arithmetic of small numbers ===== -/
theorem xaddN (hx : p.tables.exec = Jvm.exec) (hb : c.code = cc) {x y : Nat} (hdg : decode cc pc = .ok (.iadd, 1)) (kk : W p l e R s m args below meth c H locs cells slots Q (F0 m (pc + 1) ls (.int (nI (x + y)) :: rest))) : W p l e R s m args below meth c H locs cells slots Q (F0 m pc ls (.int (nI y) :: .int (nI x) :: rest)) := by
  refine lv_iadd hx hb hdg ?_
  rw [nI_add]
  exact kk
theorem xsubN (hx : p.tables.exec = Jvm.exec) (hb : c.code = cc) {x y : Nat} (h : y ≤ x) (hdg : decode cc pc = .ok (.isub, 1)) (kk : W p l e R s m args below meth c H locs cells slots Q (F0 m (pc + 1) ls (.int (nI (x - y)) :: rest))) : W p l e R s m args below meth c H locs cells slots Q (F0 m pc ls (.int (nI y) :: .int (nI x) :: rest)) := by
  refine lv_isub hx hb hdg ?_
  rw [pk_sub h]
  exact kk
theorem xmulN (hx : p.tables.exec = Jvm.exec) (hb : c.code = cc) {x y : Nat} (hdg : decode cc pc = .ok (.imul, 1)) (kk : W p l e R s m args below meth c H locs cells slots Q (F0 m (pc + 1) ls (.int (nI (x * y)) :: rest))) : W p l e R s m args below meth c H locs cells slots Q (F0 m pc ls (.int (nI y) :: .int (nI x) :: rest)) := by
  refine lv_imul hx hb hdg ?_
  rw [pk_mul]
  exact kk
/-- a value's name changed to an equal one -/
theorem xtop {x x' : Int32} (e0 : x = x') (kk : W p l e R s m args below meth c H locs cells slots Q (F0 m pc ls (.int x' :: rest))) : W p l e R s m args below meth c H locs cells slots Q (F0 m pc ls (.int x :: rest)) := by
  subst e0; exact kk
theorem xtopl {x x' : Int64} (e0 : x = x') (kk : W p l e R s m args below meth c H locs cells slots Q (F0 m pc ls (.long x' :: rest))) : W p l e R s m args below meth c H locs cells slots Q (F0 m pc ls (.long x :: rest)) := by
  subst e0; exact kk
end XL
section XC
variable {p : Program} {l : Launch} {e : Env} {R : Room} {s : State} {m : MethodId} {args : Array Value} {below : List Frame} {meth : Method} {c : Code} {H : Heap} {locs : List Loc} {cells slots : Nat} {Q : State → Prop}
variable {cc : ByteArray} {pc : Nat} {ls : Array Slot} {rest st0 : List Value} {D : va_G} {cI cS : ClassId} {A : Nat → Prop} {a : Array Value} {ws : va_W} {H0 : Heap} {free : Addr → Prop}
/-! ===== calls of methods that only read ===== -/
theorem xrd {v : Int32} (hr : va_Run p l e R s m args below meth c H locs cells slots 0 0 (F0 m pc ls st0) rest (vp_Si (fun r => r = v) a) (fun _ => False))
    (kk : W p l e R s m args below meth c H locs cells slots Q (F0 m (pc + 3) ls (.int v :: rest))) : W p l e R s m args below meth c H locs cells slots Q (F0 m pc ls st0) := by
  intro T hT X
  obtain ⟨w, st₀, t, T', L, h0, X', hL, e1, -, ⟨r, hv, hp, hh⟩, st⟩ := hr T hT X
  cases hv
  subst hp
  obtain ⟨t2, a1, b1⟩ := kk T' (by rw [e1, hh, h0]) (Stand.forget X' (fun q h => (hL q h).elim))
  exact ⟨t2, st t2 a1, b1⟩
theorem xrdl {v : Int64} (hr : va_Run p l e R s m args below meth c H locs cells slots 0 0 (F0 m pc ls st0) rest (vp_Sl (fun r => r = v) a) (fun _ => False))
    (kk : W p l e R s m args below meth c H locs cells slots Q (F0 m (pc + 3) ls (.long v :: rest))) : W p l e R s m args below meth c H locs cells slots Q (F0 m pc ls st0) := by
  intro T hT X
  obtain ⟨w, st₀, t, T', L, h0, X', hL, e1, -, ⟨r, hv, hp, hh⟩, st⟩ := hr T hT X
  cases hv
  subst hp
  obtain ⟨t2, a1, b1⟩ := kk T' (by rw [e1, hh, h0]) (Stand.forget X' (fun q h => (hL q h).elim))
  exact ⟨t2, st t2 a1, b1⟩
/-! ===== calls of methods that write: the caller's world with the callee's cells replaced ===== -/
theorem xjoin {wc w1 : va_W} {ad : List Nat} {H1 : Heap} (hP : va_P D vwCl ws H) (hD : va_D A ws) (is : List Nat) (hC : is.map (fun i => ws[i]?) = wc.map some) (had : wc.map Prod.fst = ad) (had1 : w1.map Prod.fst = ad) (hk : ∀ q : Nat, q < H.size → ¬ AW ad q → H1[q]? = H[q]?) (hP1 : va_P D vwCl w1 H1) : va_P D vwCl (xset ws is w1) H1 ∧ va_D A (xset ws is w1) := by
  have hlen : is.length = wc.length := by simpa using congrArg List.length hC
  have hlen1 : w1.length = wc.length := by
    have := congrArg List.length (had1.trans had.symm)
    simpa using this
  have hfst : is.map (fun i => (ws.map Prod.fst)[i]?) = (w1.map Prod.fst).map some := by
    have e1 : is.map (fun i => (ws.map Prod.fst)[i]?) = (is.map (fun i => ws[i]?)).map (Option.map Prod.fst) := by
      rw [List.map_map]
      apply List.map_congr_left
      intro i _
      simp
    rw [e1, hC, had1, ← had]
    simp
  refine ⟨fun k q hq => ?_, hD.re (xset_fst is w1 ws hfst)⟩
  rcases xset_get is w1 ws (by omega) k q hq with ⟨j, hj⟩ | ⟨h1, h2⟩
  · exact hP1 j q hj
  · refine (hP k q h2).kept (hk q.1 ((hP k q h2).lt) ?_)
    intro hq1
    have hq2 : q.1 ∈ wc.map Prod.fst := by rw [had]; exact hq1
    obtain ⟨j, hj⟩ := List.getElem?_of_mem hq2
    rw [List.getElem?_map] at hj
    cases hw : wc[j]? with
    | none => rw [hw] at hj; cases hj
    | some x =>
      rw [hw] at hj
      have hx : x.1 = q.1 := Option.some.inj hj
      have e2 : (is.map (fun i => ws[i]?))[j]? = some (some x) := by rw [hC, List.getElem?_map, hw]; rfl
      rw [List.getElem?_map] at e2
      cases hi : is[j]? with
      | none => rw [hi] at e2; cases e2
      | some i =>
        rw [hi] at e2
        have e3 : ws[i]? = some x := Option.some.inj e2
        have hik := hD.1 i k x q e3 h2 hx
        subst hik
        exact h1 (List.mem_of_getElem? hi)
theorem adIn {wc : va_W} {ad : List Nat} (hD : va_D A ws) (is : List Nat) (hC : is.map (fun i => ws[i]?) = wc.map some) (had : wc.map Prod.fst = ad) : ∀ q, AW ad q → A q := by
  intro q hq
  have hq2 : q ∈ wc.map Prod.fst := by rw [had]; exact hq
  obtain ⟨j, hj⟩ := List.getElem?_of_mem hq2
  rw [List.getElem?_map] at hj
  cases hw : wc[j]? with
  | none => rw [hw] at hj; cases hj
  | some x =>
    rw [hw] at hj
    have hx : x.1 = q := Option.some.inj hj
    have e2 : (is.map (fun i => ws[i]?))[j]? = some (some x) := by rw [hC, List.getElem?_map, hw]; rfl
    rw [List.getElem?_map] at e2
    cases hi : is[j]? with
    | none => rw [hi] at e2; cases e2
    | some i =>
      rw [hi] at e2
      rw [← hx]
      exact hD.2 i x (Option.some.inj e2)
theorem xmu {S : Type} {post : Int32 → S → Prop} {wc : va_W} {w1 : S → va_W} {ad : List Nat} (hr : va_Run p l e R s m args below meth c H locs cells slots 0 0 (F0 m pc ls st0) rest (va_Qi post (fun u t => va_P D vwCl (w1 u) t.heap) (AW ad) a) (AW ad)) (hP : va_P D vwCl ws H) (hD : va_D A ws) (hS : va_S A H0 H locs) (is : List Nat) (hC : is.map (fun i => ws[i]?) = wc.map some) (had : wc.map Prod.fst = ad) (had1 : ∀ u, (w1 u).map Prod.fst = ad)
    (kk : ∀ (r : Int32) (u : S) (H1 : Heap) (locs1 : List Loc), post r u → va_P D vwCl (xset ws is (w1 u)) H1 → va_D A (xset ws is (w1 u)) → va_S A H0 H1 locs1 → W p l e R s m args below meth c H1 locs1 cells slots Q (F0 m (pc + 3) ls (.int r :: rest))) : W p l e R s m args below meth c H locs cells slots Q (F0 m pc ls st0) := by
  have hA := adIn hD is hC had
  refine va_calli hr hS (fun q _ h => hA q h) hA (fun r u t H1 locs1 ht hvm hw hB hz hk hS1 => ?_)
  have hB' : va_P D vwCl (w1 u) H1 := by rw [← ht]; exact hB
  obtain ⟨g1, g2⟩ := xjoin hP hD is hC had (had1 u) hk hB'
  exact kk r u H1 locs1 hw g1 g2 hS1
theorem xmul {S : Type} {post : Int64 → S → Prop} {wc : va_W} {w1 : S → va_W} {ad : List Nat} (hr : va_Run p l e R s m args below meth c H locs cells slots 0 0 (F0 m pc ls st0) rest (va_Ql post (fun u t => va_P D vwCl (w1 u) t.heap) (AW ad) a) (AW ad)) (hP : va_P D vwCl ws H) (hD : va_D A ws) (hS : va_S A H0 H locs) (is : List Nat) (hC : is.map (fun i => ws[i]?) = wc.map some) (had : wc.map Prod.fst = ad) (had1 : ∀ u, (w1 u).map Prod.fst = ad)
    (kk : ∀ (r : Int64) (u : S) (H1 : Heap) (locs1 : List Loc), post r u → va_P D vwCl (xset ws is (w1 u)) H1 → va_D A (xset ws is (w1 u)) → va_S A H0 H1 locs1 → W p l e R s m args below meth c H1 locs1 cells slots Q (F0 m (pc + 3) ls (.long r :: rest))) : W p l e R s m args below meth c H locs cells slots Q (F0 m pc ls st0) := by
  have hA := adIn hD is hC had
  refine va_calll hr hS (fun q _ h => hA q h) hA (fun r u t H1 locs1 ht hvm hw hB hz hk hS1 => ?_)
  have hB' : va_P D vwCl (w1 u) H1 := by rw [← ht]; exact hB
  obtain ⟨g1, g2⟩ := xjoin hP hD is hC had (had1 u) hk hB'
  exact kk r u H1 locs1 hw g1 g2 hS1
theorem xmuv {S : Type} {post : S → Prop} {wc : va_W} {w1 : S → va_W} {ad : List Nat} (hr : va_Run p l e R s m args below meth c H locs cells slots 0 0 (F0 m pc ls st0) rest (va_Qv post (fun u t => va_P D vwCl (w1 u) t.heap) (AW ad) a) (AW ad)) (hP : va_P D vwCl ws H) (hD : va_D A ws) (hS : va_S A H0 H locs) (is : List Nat) (hC : is.map (fun i => ws[i]?) = wc.map some) (had : wc.map Prod.fst = ad) (had1 : ∀ u, (w1 u).map Prod.fst = ad)
    (kk : ∀ (u : S) (H1 : Heap) (locs1 : List Loc), post u → va_P D vwCl (xset ws is (w1 u)) H1 → va_D A (xset ws is (w1 u)) → va_S A H0 H1 locs1 → W p l e R s m args below meth c H1 locs1 cells slots Q (F0 m (pc + 3) ls rest)) : W p l e R s m args below meth c H locs cells slots Q (F0 m pc ls st0) := by
  have hA := adIn hD is hC had
  refine va_callv hr hS (fun q _ h => hA q h) hA (fun u t H1 locs1 ht hvm hw hB hz hk hS1 => ?_)
  have hB' : va_P D vwCl (w1 u) H1 := by rw [← ht]; exact hB
  obtain ⟨g1, g2⟩ := xjoin hP hD is hC had (had1 u) hk hB'
  exact kk u H1 locs1 hw g1 g2 hS1
end XC
/-- an array's function matters within its length alone -/
theorem va_at_fun {D : va_G} {cl : List vw_C} {q : Nat} {cA : ClassId} {n : Nat} {f g : Nat → Int32} {H : Heap} (h : ∀ j, j < n → f j = g j) (hP : va_at D cl (q, .inl (cA, n, .inl f)) H) : va_at D cl (q, .inl (cA, n, .inl g)) H := by
  have e : vp_cell cA (n, .inl f) = vp_cell cA (n, .inl g) := by
    rw [vp_cell_i, vp_cell_i]
    unfold arrV
    congr 1
    apply Array.ext
    · simp
    · intro i h1 h2
      have hi : i < n := by simpa using h1
      simp [h i hi]
  show H[q]? = _
  rw [← e]
  exact hP
theorem va_P.fn {D : va_G} {cl : List vw_C} {ws : va_W} {H : Heap} (hP : va_P D cl ws H) (k : Nat) {q : Nat} {cA : ClassId} {n : Nat} {f g : Nat → Int32} (hk : ws[k]? = some (q, .inl (cA, n, .inl f))) (h : ∀ j, j < n → f j = g j) : va_P D cl (ws.set k (q, .inl (cA, n, .inl g))) H := by
  intro i x hx
  by_cases hik : k = i
  · subst hik
    rw [List.getElem?_set] at hx
    simp only [if_true] at hx
    split at hx
    · cases hx
      exact va_at_fun h (hP k _ hk)
    · cases hx
  · rw [List.getElem?_set_ne hik] at hx
    exact hP i x hx
section XD
variable {p : Program} {l : Launch} {e : Env} {R : Room} {s : State} {m : MethodId} {args : Array Value} {below : List Frame} {meth : Method} {c : Code} {H : Heap} {locs : List Loc} {cells slots : Nat} {Q : State → Prop}
variable {cc : ByteArray} {pc : Nat} {ls : Array Slot} {rest : List Value}
theorem xdivN {x y : Nat} (h1 : x < 2 ^ 31) (h2 : 0 < y) (h3 : y < 2 ^ 31) (hx : p.tables.exec = Jvm.exec) (hb : c.code = cc) (hdg : decode cc pc = .ok (.idiv, 1)) (kk : W p l e R s m args below meth c H locs cells slots Q (F0 m (pc + 1) ls (.int (nI (x / y)) :: rest))) : W p l e R s m args below meth c H locs cells slots Q (F0 m pc ls (.int (nI y) :: .int (nI x) :: rest)) := by
  refine lv_idiv hx hb hdg (nI_ne0 h2 h3) ?_
  rw [pk_div h1 h2 h3]
  exact kk
theorem xremN {x y : Nat} (h1 : x < 2 ^ 31) (h2 : 0 < y) (h3 : y < 2 ^ 31) (hx : p.tables.exec = Jvm.exec) (hb : c.code = cc) (hdg : decode cc pc = .ok (.irem, 1)) (kk : W p l e R s m args below meth c H locs cells slots Q (F0 m (pc + 1) ls (.int (nI (x % y)) :: rest))) : W p l e R s m args below meth c H locs cells slots Q (F0 m pc ls (.int (nI y) :: .int (nI x) :: rest)) := by
  refine lv_irem hx hb hdg (nI_ne0 h2 h3) ?_
  first
    | (rw [pk_rem h1 h2 h3]; exact kk)
    | exact (pk_rem h1 h2 h3) ▸ kk
end XD
section XCP
variable {p : Program} {l : Launch} {e : Env} {R : Room} {s : State} {m : MethodId} {args : Array Value} {below : List Frame} {meth : Method} {c : Code} {H : Heap} {locs : List Loc} {cells slots : Nat} {Q : State → Prop}
variable {cc : ByteArray} {pc : Nat} {ls : Array Slot} {rest : List Value} {D : va_G} {cI cS : ClassId} {A : Nat → Prop} {a : Nat} {ws : va_W} {H0 : Heap}
/-- System.arraycopy of ints, at small places -/
theorem xcopy (hx : p.tables.exec = Jvm.exec) (hb : c.code = cc) (hml : c.maxLocals = ls.size) {own : String} {index : Nat} (hown : s.vm.findClass own = some m.cls) (hlink : (Cond.methodLink own index arraycopyName).before args s = true) (hnat : (Cond.native arraycopyName).before args s = true) (hstat : (Cond.static arraycopyName).before args s = true) (hini : (Cond.initialized "java/lang/System").before args s = true)
    (hG : Gk D cI cS s) (hP : va_P D vwCl ws H) (hD : va_D A ws) (hS : va_S A H0 H locs) (q0 q1 : Nat) {a0 n0 n1 : Nat} {f g : Nat → Int32} (ha0 : ws[q0]? = some (a0, .inl (cI, n0, .inl f))) (ha1 : ws[q1]? = some (a, .inl (cI, n1, .inl g))) (i j k : Nat) {sp dp n : Int32} (e1 : sp = nI i) (e2 : dp = nI j) (e3 : n = nI k) (h1 : i + k ≤ n0) (h2 : j + k ≤ n1) (h3 : n0 < 1000) (h4 : n1 < 1000)
    (hframes : 1 ≤ R.frames) (hlocals : (rest.map fun v => v.category).sum + 18 ≤ R.locals) (hdg : decode cc pc = .ok (.invokestatic index, 3))
    (kk : ∀ (H1 : Heap) (locs1 : List Loc), va_P D vwCl (ws.set q1 (a, .inl (cI, n1, .inl (va_cpy f g i j k)))) H1 → va_D A (ws.set q1 (a, .inl (cI, n1, .inl (va_cpy f g i j k)))) → va_S A H0 H1 locs1 → W p l e R s m args below meth c H1 locs1 cells slots Q (F0 m (pc + 3) ls rest)) : W p l e R s m args below meth c H locs cells slots Q (F0 m pc ls (.int n :: .int dp :: .ref a :: .int sp :: .ref a0 :: rest)) := by
  subst e1; subst e2; subst e3
  have b1 : (nI i).toNatClampNeg = i := nI_clamp (by omega)
  have b2 : (nI j).toNatClampNeg = j := nI_clamp (by omega)
  have b3 : (nI k).toNatClampNeg = k := nI_clamp (by omega)
  refine va_copyi hx hb hml hown hlink hnat hstat hini hG.1 hP hD hS q0 q1 0 0 ha0 ha1 rfl rfl rfl (nI_pos (by omega)) (nI_pos (by omega)) (nI_pos (by omega)) (by rw [b1, b3]; exact h1) (by rw [b2, b3]; exact h2) (fun _ _ => rfl) hframes hlocals hdg ?_
  rw [b1, b2, b3]
  exact kk
/-- a whole array copied to one of the same length -/
theorem xcopyA {N : Nat} (hx : p.tables.exec = Jvm.exec) (hb : c.code = cc) (hml : c.maxLocals = ls.size) {own : String} {index : Nat} (hown : s.vm.findClass own = some m.cls) (hlink : (Cond.methodLink own index arraycopyName).before args s = true) (hnat : (Cond.native arraycopyName).before args s = true) (hstat : (Cond.static arraycopyName).before args s = true) (hini : (Cond.initialized "java/lang/System").before args s = true)
    (hG : Gk D cI cS s) (hP : va_P D vwCl ws H) (hD : va_D A ws) (hS : va_S A H0 H locs) (q0 q1 : Nat) {a0 : Nat} {f g : Nat → Int32} (ha0 : ws[q0]? = some (a0, .inl (cI, N, .inl f))) (ha1 : ws[q1]? = some (a, .inl (cI, N, .inl g))) (hN : N < 1000)
    (hframes : 1 ≤ R.frames) (hlocals : (rest.map fun v => v.category).sum + 18 ≤ R.locals) (hdg : decode cc pc = .ok (.invokestatic index, 3))
    (kk : ∀ (H1 : Heap) (locs1 : List Loc), va_P D vwCl (ws.set q1 (a, .inl (cI, N, .inl f))) H1 → va_D A (ws.set q1 (a, .inl (cI, N, .inl f))) → va_S A H0 H1 locs1 → W p l e R s m args below meth c H1 locs1 cells slots Q (F0 m (pc + 3) ls rest)) : W p l e R s m args below meth c H locs cells slots Q (F0 m pc ls (.int (nI N) :: .int (nI 0) :: .ref a :: .int (nI 0) :: .ref a0 :: rest)) := by
  refine xcopy hx hb hml hown hlink hnat hstat hini hG hP hD hS q0 q1 ha0 ha1 0 0 N rfl rfl rfl (by omega) (by omega) hN hN hframes hlocals hdg (fun H1 locs1 hP1 hD1 hS1 => ?_)
  have hl : q1 < ws.length := (List.getElem?_eq_some_iff.mp ha1).1
  have hk : (ws.set q1 (a, .inl (cI, N, .inl (va_cpy f g 0 0 N))))[q1]? = some (a, .inl (cI, N, .inl (va_cpy f g 0 0 N))) := List.getElem?_set_self hl
  have hP2 := hP1.fn q1 (g := f) hk (fun j hj => by rw [pk_cpy_in (Nat.zero_le _) (by omega)]; congr 1; omega)
  rw [List.set_set] at hP2
  exact kk H1 locs1 hP2 (hD1.re (by rw [List.map_set, List.map_set])) hS1
end XCP

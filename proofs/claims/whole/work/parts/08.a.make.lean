/-! ===== what is made: constructors ===== -/
def zN : Nat → Nat := fun _ => 0
/-- what is known ahead of a constructor: also the class of arrays of sheets, the two links to the parts' constructors -/
def Gk2 (D : va_G) (cI cS : ClassId) (U : State) : Prop := Gk D cI cS U ∧ va_AO "ChairBallot$Sheet" U ∧ va_Nw (.methodLinkNest RX2 19 yX0_init RX2) U ∧ va_Nw (.methodLinkNest RX2 47 yX1_init RX2) U
theorem Gk2.warm {D : va_G} {cI cS : ClassId} {s U : State} (hW : s.WarmedH U.vm) (h : Gk2 D cI cS s) : Gk2 D cI cS U := ⟨Gk.warm hW h.1, va_AO.moved hW.alike h.2.1, va_Nw.warmM hW h.2.2.1, va_Nw.warmM hW h.2.2.2⟩
theorem Gk2.same {D : va_G} {cI cS : ClassId} {s U : State} (e : s.vm = U.vm) (h : Gk2 D cI cS s) : Gk2 D cI cS U := ⟨Gk.same e h.1, va_AO.moved (by rw [e]; exact Vm.Alike.refl U.vm) h.2.1, va_Nw.same rfl e h.2.2.1, va_Nw.same rfl e h.2.2.2⟩
def PI (D : va_G) (cI cS : ClassId) (as : List Value) (sz : Nat) (w : va_W) : Array Value → State → Prop := va_Pc as (fun U => U.heap.size = sz ∧ Gk2 D cI cS U ∧ va_P D vwCl w U.heap)
theorem PI.blind (D : va_G) (cI cS : ClassId) (as : List Value) (sz : Nat) (w : va_W) : FrameBlind (PI D cI cS as sz w) := fun _ U g mk h => ⟨h.1, h.2.1, Gk2.same (U := U.calling g mk _) rfl h.2.2.1, h.2.2.2⟩
theorem PI.pre {D : va_G} {cI cS : ClassId} {as : List Value} {w : va_W} {s : State} {H : Heap} (hG : Gk2 D cI cS s) (hP : va_P D vwCl w H) : PreS s H (PI D cI cS as H.size w) as := ⟨PI.blind D cI cS as H.size w, fun U hU hW => ⟨rfl, by rw [hU], Gk2.warm hW hG, by rw [hU]; exact hP⟩⟩
/-- one cell is apart from itself -/
theorem dSing {q : Nat} {x : va_E} {sz : Nat} : va_D (va_A [(q, x)] sz) [(q, x)] := by
  refine ⟨fun i j a b h1 h2 _ => ?_, fun k y hk => Or.inl ⟨k, y.2, hk⟩⟩
  have e1 := (List.getElem?_eq_some_iff.mp h1).1
  have e2 := (List.getElem?_eq_some_iff.mp h2).1
  simp at e1 e2
  omega
theorem startI {l : Launch} {y : MethodName} {ws ws' : List Cond} {rm : Room} {D : va_G} {cI cS : ClassId} {as : List Value} {w : va_W} {Qc : Array Value → State → Outcome → State → Prop} {free : Addr → Prop} {cc : ByteArray} {maxL mc ms sz : Nat} {ret : Option FieldType}
    (hy : plainName y.cls = true) (hw : ws = Cond.code y cc maxL ret :: ws') (hn : (lg_sl as).length ≤ maxL)
    (body : ∀ (p : Program) (e : Env) (s : State) (m : MethodId) (below : List Frame) (meth : Method) (c : Code), p.tables.exec = Jvm.exec → c.code = cc → meth.sig.returnType = ret → (∀ w ∈ ws, w.before as.toArray s = true) → s.vm.findClass y.cls = some m.cls → meth.locks = false → c.maxLocals = maxL → meth.name = y.name → s.heap.size = sz → Gk2 D cI cS s → va_P D vwCl w s.heap →
      ∀ ls : Array Slot, lv_has ls maxL (lv_args 0 as) → W p l e rm s m as.toArray below meth c s.heap [] 0 0 (MQ below Qc as.toArray s mc ms free) (F0 m 0 ls [])) :
    Met l y ws rm (PI D cI cS as sz w) Qc mc ms free := by
  refine Met.ofW (cc := cc) (maxL := maxL) (ret := ret) hy hw ?_
  intro p e s m args below meth c s₁ B hml hv
  obtain ⟨rfl, hsz, hG, hP⟩ := hv
  have hl := lv_entry as (n := maxL) hn
  rw [lg_entry_eq]
  exact body p e s m below meth c B.exec B.bytes B.returns (atoms_spec (ws := ws) B.pre) (findClass_of_methodNamed B.named) B.notSynchronized hml (name_of_methodNamed B.named B.method).1 hsz hG hP _ hl
section MK
variable {p : Program} {l : Launch} {e : Env} {R : Room} {s : State} {m : MethodId} {args : Array Value} {below : List Frame} {meth : Method} {c : Code} {H : Heap} {locs : List Loc} {cells slots : Nat} {Q : State → Prop}
variable {cc : ByteArray} {pc : Nat} {ls : Array Slot} {rest : List Value} {D : va_G} {cI cS : ClassId} {A : Nat → Prop} {a : Nat} {ws : va_W} {H0 : Heap}
theorem xnewI (hx : p.tables.exec = Jvm.exec) (hb : c.code = cc) (harr : (Cond.arrayClass .int).before args s = true) (hG : Gk D cI cS s) (hP : va_P D vwCl ws H) (hD : va_D A ws) (hS : va_S A H0 H locs) (hA : ∀ q, H0.size ≤ q → A q) (N : Nat) (hN : N < 1000) {n : Int32} (en : n = nI N) (hcells : cells + 1 ≤ R.cells) (hslots : slots + N ≤ R.slots) (hdg : decode cc pc = .ok (.newarray .int, 2))
    (kk : ∀ (q : Nat) (H1 : Heap), va_P D vwCl (ws ++ [(q, .inl (cI, N, .inl (aI zN)))]) H1 → va_D A (ws ++ [(q, .inl (cI, N, .inl (aI zN)))]) → va_S A H0 H1 locs → W p l e R s m args below meth c H1 locs (cells + 1) (slots + N) Q (F0 m (pc + 2) ls (.ref q :: rest))) : W p l e R s m args below meth c H locs cells slots Q (F0 m pc ls (.int n :: rest)) := by
  subst en
  refine va_newa (atype := .int) (ty := .int) (a0 := (N, .inl (aI zN))) hx hb harr rfl hG.1 hP hD hS hA (fun cA => by rw [vp_cell_i]; rfl) (nI_pos (by omega)) (nI_clamp (by omega)) (by show N * 4 ≤ _; omega) hcells hslots hdg (fun q cA H1 hK1 hP1 hD1 hS1 => ?_)
  have e1 := va_nm_int (hK1.2 2 (cA, .int) rfl).2
  have e2 := va_nm_int (hG.1.2 0 (cI, .int) rfl).2
  have e3 : cA = cI := Option.some.inj (e1.symm.trans e2)
  subst e3
  exact kk q H1 hP1 hD1 hS1
theorem xnewQ (hx : p.tables.exec = Jvm.exec) (hb : c.code = cc) {own : String} {index : Nat} (hown : s.vm.findClass own = some m.cls) (hcl : (Cond.classLink own index "ChairBallot$Sheet").before args s = true) (hover : va_AO "ChairBallot$Sheet" s) (hG : Gk D cI cS s) (hP : va_P D vwCl ws H) (hD : va_D A ws) (hS : va_S A H0 H locs) (hA : ∀ q, H0.size ≤ q → A q) (N : Nat) (hN : N < 1000) {n : Int32} (en : n = nI N) (hcells : cells + 1 ≤ R.cells) (hslots : slots + N ≤ R.slots) (hdg : decode cc pc = .ok (.anewarray index, 3))
    (kk : ∀ (q : Nat) (H1 : Heap), va_P D vwCl (ws ++ [(q, .inl (cS, N, .inr (.inr (.inr (.inr (fun _ => none))))))]) H1 → va_D A (ws ++ [(q, .inl (cS, N, .inr (.inr (.inr (.inr (fun _ => none))))))]) → va_S A H0 H1 locs → W p l e R s m args below meth c H1 locs (cells + 1) (slots + N) Q (F0 m (pc + 3) ls (.ref q :: rest))) : W p l e R s m args below meth c H locs cells slots Q (F0 m pc ls (.int n :: rest)) := by
  subst en
  refine va_newq hx hb hown hcl hover hG.1 hP hD hS hA (nI_pos (by omega)) (nI_clamp (by omega)) (by omega) hcells hslots hdg (fun q cA H1 hK1 hP1 hD1 hS1 => ?_)
  have e1 := va_nmO (hK1.2 2 (cA, .object "ChairBallot$Sheet") rfl).2 rfl
  have e2 := va_nmO (hG.1.2 1 (cS, .object "ChairBallot$Sheet") rfl).2 rfl
  have e3 : cA = cS := Option.some.inj (e1.symm.trans e2)
  subst e3
  exact kk q H1 hP1 hD1 hS1
theorem xastq (hx : p.tables.exec = Jvm.exec) (hb : c.code = cc) (hG : Gk D cI cS s) (hP : va_P D vwCl ws H) (hD : va_D A ws) (hS : va_S A H0 H locs) (q0 qk : Nat) {n v : Nat} {vs : List Value} {f : Nat → Option Nat} (ha : ws[q0]? = some (a, .inl (cS, n, .inr (.inr (.inr (.inr f)))))) (hv : ws[qk]? = some (v, .inr (1, vs))) {i : Int32} (j : Nat) (e0 : i = nI j) (hj : j < n) (hn : n < 2 ^ 31) (hdg : decode cc pc = .ok (.aastore, 1))
    (kk : ∀ (H1 : Heap) (locs1 : List Loc), va_P D vwCl (ws.set q0 (a, .inl (cS, n, .inr (.inr (.inr (.inr (va_up f j (some v)))))))) H1 → va_D A (ws.set q0 (a, .inl (cS, n, .inr (.inr (.inr (.inr (va_up f j (some v)))))))) → va_S A H0 H1 locs1 → W p l e R s m args below meth c H1 locs1 cells slots Q (F0 m (pc + 1) ls rest)) : W p l e R s m args below meth c H locs cells slots Q (F0 m pc ls (.ref v :: .int i :: .ref a :: rest)) := by
  subst e0
  refine va_astq hx hb hG.1 hP hD hS q0 1 qk 1 (r := (RX1, TX1, 4)) ha rfl hv rfl (vp_in_nI hj hn) hdg ?_
  rw [nI_clamp (Nat.lt_trans hj hn)]
  exact kk
end MK
/-- a row of references matters within its length alone -/
theorem va_at_funQ {D : va_G} {cl : List vw_C} {q : Nat} {cA : ClassId} {n : Nat} {f g : Nat → Option Nat} {H : Heap} (h : ∀ j, j < n → f j = g j) (hP : va_at D cl (q, .inl (cA, n, .inr (.inr (.inr (.inr f))))) H) : va_at D cl (q, .inl (cA, n, .inr (.inr (.inr (.inr g))))) H := by
  have e : vp_cell cA (n, .inr (.inr (.inr (.inr f)))) = vp_cell cA (n, .inr (.inr (.inr (.inr g)))) := by
    rw [vp_cell_q, vp_cell_q]
    unfold arrV
    congr 1
    apply Array.ext
    · simp
    · intro i h1 h2
      have hi : i < n := by simpa using h1
      simp [h i hi]
  show H[q]? = _
  rw [← e]
  exact hP
theorem va_P.fnQ {D : va_G} {cl : List vw_C} {ws : va_W} {H : Heap} (hP : va_P D cl ws H) (k : Nat) {q : Nat} {cA : ClassId} {n : Nat} {f g : Nat → Option Nat} (hk : ws[k]? = some (q, .inl (cA, n, .inr (.inr (.inr (.inr f)))))) (h : ∀ j, j < n → f j = g j) : va_P D cl (ws.set k (q, .inl (cA, n, .inr (.inr (.inr (.inr g)))))) H := by
  intro i x hx
  by_cases hik : k = i
  · subst hik
    rw [List.getElem?_set] at hx
    simp only [if_true] at hx
    split at hx
    · cases hx
      exact va_at_funQ h (hP k _ hk)
    · cases hx
  · rw [List.getElem?_set_ne hik] at hx
    exact hP i x hx
/-- the addresses of a world are apart -/
theorem va_D.nd {A : Nat → Prop} {ws : va_W} {as : List Nat} (h : va_D A ws) (e : ws.map Prod.fst = as) : nd as := by
  subst e
  intro i j a h1 h2
  rw [List.getElem?_map] at h1 h2
  cases hi : ws[i]? with
  | none => rw [hi] at h1; cases h1
  | some x =>
    cases hj : ws[j]? with
    | none => rw [hj] at h2; cases h2
    | some y =>
      rw [hi] at h1
      rw [hj] at h2
      exact h.1 i j x y hi hj ((Option.some.inj h1).trans (Option.some.inj h2).symm)

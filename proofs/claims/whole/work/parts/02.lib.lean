/-! my own rows: contracts that read, contracts that write, their starts, ends and calls; array and branch rows over nI -/
def nwL : List Cond := [.methodLinkNest RX6 29 yX2_init "FireNets", .methodLinkNest RX3 41 yX6_within "FireNets", .methodLinkNest RX3 53 yX6_holds "FireNets", .methodLinkNest RX5 25 yX6_within "FireNets", .methodLinkNest RX1 56 yX6_holds "FireNets", .methodLinkNest RX0 71 yX6_within "FireNets"]
/-- the links across the nest -/
def NW (U : State) : Prop := ∀ w ∈ nwL, va_Nw w U
theorem nwL_tab : ∀ w ∈ nwL, w.onTables = true := by
  intro w hw
  simp only [nwL, List.mem_cons, List.not_mem_nil, or_false] at hw
  rcases hw with rfl | rfl | rfl | rfl | rfl | rfl <;> rfl
theorem NW.same {u U : State} (h : u.vm = U.vm) (hN : NW u) : NW U := fun w hw => va_Nw.same (nwL_tab w hw) h (hN w hw)
theorem NW.warm {s U : State} (hW : s.WarmedH U.vm) (hN : NW s) : NW U := by
  intro w hw
  have h := hN w hw
  simp only [nwL, List.mem_cons, List.not_mem_nil, or_false] at hw
  rcases hw with rfl | rfl | rfl | rfl | rfl | rfl <;> exact va_Nw.warmM hW h
theorem NW.of {args : Array Value} {U : State} (h : ∀ w ∈ nwL, w.before args U = true) : NW U := fun w hw => va_Nw.of (nwL_tab w hw) (h w hw)
abbrev aT (cI cJ : ClassId) : List (ClassId × FieldType) := [(cI, .int), (cJ, .long)]
/-- what every method asks of the machine's tables -/
def KK (D : va_G) (cI cJ : ClassId) (U : State) : Prop := va_K D vwCl (aT cI cJ) U ∧ NW U
theorem KK.same {D : va_G} {cI cJ : ClassId} {u U : State} (h : u.vm = U.vm) (hK : KK D cI cJ u) : KK D cI cJ U := ⟨va_K.moved (u := u) (U := U) (by rw [h]; exact Vm.Alike.refl U.vm) hK.1, hK.2.same h⟩
theorem KK.warm {D : va_G} {cI cJ : ClassId} {s U : State} (hW : s.WarmedH U.vm) (hK : KK D cI cJ s) : KK D cI cJ U := ⟨va_K.moved hW.alike hK.1, hK.2.warm hW⟩
/-- the start of a method that only reads -/
def rPre (D : va_G) (cI cJ : ClassId) (av : List Value) (ws : va_W) : Array Value → State → Prop := va_Pc av (fun U => va_P D vwCl ws U.heap ∧ KK D cI cJ U)
/-- the start of a method that writes its cells -/
def mPre (D : va_G) (cI cJ : ClassId) (av : List Value) (ws : va_W) : Array Value → State → Prop := va_Pc av (fun U => va_P D vwCl ws U.heap ∧ KK D cI cJ U ∧ va_D (fun _ => True) ws)
def mA (ws : va_W) : Nat → Prop := fun q => ∃ (k : Nat) (e : va_E), ws[k]? = some (q, e)
def nA : Nat → Prop := fun _ => False
theorem rPre_blind {D : va_G} {cI cJ : ClassId} {av : List Value} {ws : va_W} : FrameBlind (rPre D cI cJ av ws) := fun a U g mk q => ⟨q.1, q.2.1, q.2.2.same (u := U) (U := U.calling g mk a) rfl⟩
theorem mPre_blind {D : va_G} {cI cJ : ClassId} {av : List Value} {ws : va_W} : FrameBlind (mPre D cI cJ av ws) := fun a U g mk q => ⟨q.1, q.2.1, q.2.2.1.same (u := U) (U := U.calling g mk a) rfl, q.2.2.2⟩
theorem va_D.at {A B : Nat → Prop} {ws ws' : va_W} (h : va_D A ws) (he : ws'.map (fun q => q.1) = ws.map (fun q => q.1)) : va_D A ws' := by
  have key : ∀ (k : Nat) (q : Nat × va_E), ws'[k]? = some q → ∃ q0, ws[k]? = some q0 ∧ q0.1 = q.1 := by
    intro k q hk
    have h1 : (ws'.map (fun q => q.1))[k]? = some q.1 := by rw [List.getElem?_map, hk]; rfl
    rw [he, List.getElem?_map] at h1
    cases hq : ws[k]? with
    | none => rw [hq] at h1; cases h1
    | some q0 => rw [hq] at h1; exact ⟨q0, rfl, Option.some.inj h1⟩
  refine ⟨fun i j x y hi hj hxy => ?_, fun k q hk => ?_⟩
  · obtain ⟨x0, h1, h2⟩ := key i x hi
    obtain ⟨y0, h3, h4⟩ := key j y hj
    exact h.1 i j x0 y0 h1 h3 (h2.trans (hxy.trans h4.symm))
  · obtain ⟨q0, h1, h2⟩ := key k q hk
    rw [← h2]
    exact h.2 k q0 h1
/-- a world with some of its cells laid anew, by their places -/
def va_lay : va_W → List Nat → va_W → va_W
  | ws, i :: is, w :: wm => va_lay (ws.set i w) is wm
  | ws, _, _ => ws
theorem va_lay_get : ∀ (is : List Nat) (ws wm : va_W), va_nd is = true → is.length = wm.length → (∀ i ∈ is, i < ws.length) → ∀ (k : Nat), (k ∉ is → (va_lay ws is wm)[k]? = ws[k]?) ∧ (∀ j : Nat, is[j]? = some k → (va_lay ws is wm)[k]? = wm[j]?)
  | [], ws, wm, _, _, _, k => ⟨fun _ => by cases wm <;> rfl, fun j h => by simp at h⟩
  | i :: is, ws, [], _, hl, _, k => by simp at hl
  | i :: is, ws, w :: wm, hn, hl, hi, k => by
    simp only [va_nd, Bool.and_eq_true, decide_eq_true_eq] at hn
    have ih := va_lay_get is (ws.set i w) wm hn.2 (by simpa using hl) (fun j hj => by rw [List.length_set]; exact hi j (List.mem_cons_of_mem _ hj)) k
    refine ⟨fun hk => ?_, fun j hj => ?_⟩
    · rw [List.mem_cons, not_or] at hk
      show (va_lay (ws.set i w) is wm)[k]? = _
      rw [ih.1 hk.2, List.getElem?_set_ne (Ne.symm hk.1)]
    · cases j with
      | zero =>
        rw [List.getElem?_cons_zero] at hj
        cases hj
        show (va_lay (ws.set i w) is wm)[i]? = _
        rw [ih.1 hn.1, List.getElem?_set_self (hi i List.mem_cons_self)]
        rfl
      | succ j =>
        rw [List.getElem?_cons_succ] at hj
        show (va_lay (ws.set i w) is wm)[k]? = _
        rw [ih.2 j hj]
        rfl
/-- behind a call: the callee's cells laid anew, the others as they were -/
theorem va_joinL {A0 : Nat → Prop} {D : va_G} {cl : List vw_C} {ws wc w1 : va_W} {H H1 : Heap} (hP : va_P D cl ws H) (hD : va_D A0 ws) (is : List Nat) (hC : is.map (fun i => ws[i]?) = wc.map some) (hn : va_nd is = true) (hk : ∀ q : Nat, q < H.size → ¬ mA wc q → H1[q]? = H[q]?) (hP1 : va_P D cl w1 H1) (he : w1.map (fun q => q.1) = wc.map (fun q => q.1)) : va_P D cl (va_lay ws is w1) H1 ∧ va_D A0 (va_lay ws is w1) := by
  have hlen : is.length = wc.length := by have := congrArg List.length hC; simpa using this
  have hlen1 : w1.length = wc.length := by have := congrArg List.length he; simpa using this
  have hat : ∀ (j i : Nat), is[j]? = some i → ∃ q, wc[j]? = some q ∧ ws[i]? = some q := by
    intro j i hj
    have h1 : (is.map (fun i => ws[i]?))[j]? = some (ws[i]?) := by rw [List.getElem?_map, hj]; rfl
    rw [hC, List.getElem?_map] at h1
    cases hq : wc[j]? with
    | none => rw [hq] at h1; cases h1
    | some q => rw [hq] at h1; exact ⟨q, rfl, (Option.some.inj h1).symm⟩
  have hin : ∀ i ∈ is, i < ws.length := by
    intro i hi
    obtain ⟨j, hj⟩ := List.getElem?_of_mem hi
    obtain ⟨q, -, h2⟩ := hat j i hj
    exact (List.getElem?_eq_some_iff.mp h2).1
  have had : ∀ (j : Nat) (q : Nat × va_E), w1[j]? = some q → ∃ q0, wc[j]? = some q0 ∧ q0.1 = q.1 := by
    intro j q hj
    have h1 : (w1.map (fun q => q.1))[j]? = some q.1 := by rw [List.getElem?_map, hj]; rfl
    rw [he, List.getElem?_map] at h1
    cases hq : wc[j]? with
    | none => rw [hq] at h1; cases h1
    | some q0 => rw [hq] at h1; exact ⟨q0, rfl, Option.some.inj h1⟩
  have hl1 : is.length = w1.length := hlen.trans hlen1.symm
  refine ⟨fun k q hkq => ?_, ?_⟩
  · have hg := va_lay_get is ws w1 hn hl1 hin k
    by_cases hm : k ∈ is
    · obtain ⟨j, hj⟩ := List.getElem?_of_mem hm
      rw [hg.2 j hj] at hkq
      exact hP1 j q hkq
    · rw [hg.1 hm] at hkq
      refine (hP k q hkq).kept (hk q.1 (hP k q hkq).lt ?_)
      rintro ⟨j, e, hj⟩
      have hj' : is[j]? = some (is[j]'(by rw [hlen]; exact (List.getElem?_eq_some_iff.mp hj).1)) := List.getElem?_eq_getElem _
      obtain ⟨q0, h1, h2⟩ := hat j _ hj'
      rw [hj] at h1
      cases h1
      have := hD.1 k _ q _ hkq h2 rfl
      exact hm (this ▸ List.mem_of_getElem? hj')
  · refine hD.at (B := A0) (List.ext_getElem? fun k => ?_)
    rw [List.getElem?_map, List.getElem?_map]
    have hg := va_lay_get is ws w1 hn hl1 hin k
    by_cases hm : k ∈ is
    · obtain ⟨j, hj⟩ := List.getElem?_of_mem hm
      rw [hg.2 j hj]
      obtain ⟨q0, h1, h2⟩ := hat j k hj
      rw [h2]
      cases hw : w1[j]? with
      | none =>
        have := (List.getElem?_eq_some_iff.mp h1).1
        rw [List.getElem?_eq_none_iff] at hw
        omega
      | some q =>
        obtain ⟨q1, h3, h4⟩ := had j q hw
        rw [h1] at h3
        cases h3
        simp [h4]
    · rw [hg.1 hm]
theorem mA_free {A0 : Nat → Prop} {ws wc : va_W} (hD : va_D A0 ws) (is : List Nat) (hC : is.map (fun i => ws[i]?) = wc.map some) : ∀ q, mA wc q → A0 q := by
  rintro q ⟨k, e, h⟩
  have h1 : (is.map (fun i => ws[i]?))[k]? = some (some (q, e)) := by rw [hC, List.getElem?_map, h]; rfl
  rw [List.getElem?_map] at h1
  cases hi : is[k]? with
  | none => rw [hi] at h1; cases h1
  | some i => rw [hi] at h1; exact hD.2 i (q, e) (Option.some.inj h1)
theorem va_subM {D : va_G} {cl : List vw_C} {ws wc : va_W} {H : Heap} (hP : va_P D cl ws H) (is : List Nat) (hC : is.map (fun i => ws[i]?) = wc.map some) : va_P D cl wc H := by
  intro k q h
  have h1 : (is.map (fun i => ws[i]?))[k]? = some (some q) := by rw [hC, List.getElem?_map, h]; rfl
  rw [List.getElem?_map] at h1
  cases hi : is[k]? with
  | none => rw [hi] at h1; cases h1
  | some i => rw [hi] at h1; exact hP i q (Option.some.inj h1)
abbrev qRI (v : Int32) : Array Value → State → Outcome → State → Prop := va_Qi (fun (r : Int32) (_ : Unit) => r = v) (fun _ _ => True) nA
abbrev qRL (v : Int64) : Array Value → State → Outcome → State → Prop := va_Ql (fun (r : Int64) (_ : Unit) => r = v) (fun _ _ => True) nA
abbrev mQi {S : Type} (D : va_G) (post : Int32 → S → Prop) (w' : S → va_W) (wc : va_W) : Array Value → State → Outcome → State → Prop := va_Qi post (fun u t => va_P D vwCl (w' u) t.heap) (mA wc)
abbrev mQl {S : Type} (D : va_G) (post : Int64 → S → Prop) (w' : S → va_W) (wc : va_W) : Array Value → State → Outcome → State → Prop := va_Ql post (fun u t => va_P D vwCl (w' u) t.heap) (mA wc)
abbrev mQv {S : Type} (D : va_G) (post : S → Prop) (w' : S → va_W) (wc : va_W) : Array Value → State → Outcome → State → Prop := va_Qv post (fun u t => va_P D vwCl (w' u) t.heap) (mA wc)
/-- what a walk has at its start -/
theorem startR {l : Launch} {D : va_G} {cI cJ : ClassId} {y : MethodName} {ws ws' : List Cond} {rm : Room} {av : List Value} {wc : va_W} {Qc : Array Value → State → Outcome → State → Prop} {mc ms : Nat} {free : Addr → Prop} {cc : ByteArray} {maxL : Nat} {ret : Option FieldType} (hy : plainName y.cls = true) (hw : ws = Cond.code y cc maxL ret :: ws') (hn : (lg_sl av).length ≤ maxL)
    (body : ∀ (p : Program) (e : Env) (s : State) (m : MethodId) (args : Array Value) (below : List Frame) (meth : Method) (c : Code) (ls : Array Slot) (Q : State → Prop), Q = MQ below Qc args s mc ms free → p.tables.exec = Jvm.exec → c.code = cc → meth.sig.returnType = ret → meth.locks = false → c.maxLocals = maxL → s.vm.findClass y.cls = some m.cls → (∀ w ∈ ws, w.before args s = true) → va_K D vwCl (aT cI cJ) s → NW s → va_P D vwCl wc s.heap → lv_has ls maxL (lv_args 0 av) → (y.name = "<init>" → meth.name = "<init>") → W p l e rm s m args below meth c s.heap [] 0 0 Q (F0 m 0 ls [])) :
    Met l y ws rm (rPre D cI cJ av wc) Qc mc ms free := by
  refine Met.ofW (cc := cc) (maxL := maxL) (ret := ret) hy hw ?_
  intro p e s m args below meth c s₁ B hml hv
  obtain ⟨rfl, hP, hK⟩ := hv
  have hl := lv_entry av (n := maxL) hn
  rw [lg_entry_eq]
  exact body p e s m _ below meth c _ _ rfl B.exec B.bytes B.returns B.notSynchronized hml (findClass_of_methodNamed B.named) (atoms_spec (ws := ws) B.pre) hK.1 hK.2 hP hl (fun h => ((name_of_methodNamed B.named B.method).1).trans h)
theorem startM {l : Launch} {D : va_G} {cI cJ : ClassId} {y : MethodName} {ws ws' : List Cond} {rm : Room} {av : List Value} {wc : va_W} {Qc : Array Value → State → Outcome → State → Prop} {mc ms : Nat} {free : Addr → Prop} {cc : ByteArray} {maxL : Nat} {ret : Option FieldType} (hy : plainName y.cls = true) (hw : ws = Cond.code y cc maxL ret :: ws') (hn : (lg_sl av).length ≤ maxL)
    (body : ∀ (p : Program) (e : Env) (s : State) (m : MethodId) (args : Array Value) (below : List Frame) (meth : Method) (c : Code) (ls : Array Slot) (Q : State → Prop) (A : Nat → Prop), A = mA wc → Q = MQ below Qc args s mc ms free → p.tables.exec = Jvm.exec → c.code = cc → meth.sig.returnType = ret → meth.locks = false → c.maxLocals = maxL → s.vm.findClass y.cls = some m.cls → (∀ w ∈ ws, w.before args s = true) → va_K D vwCl (aT cI cJ) s → NW s → va_P D vwCl wc s.heap → va_D A wc → lv_has ls maxL (lv_args 0 av) → (y.name = "<init>" → meth.name = "<init>") → W p l e rm s m args below meth c s.heap [] 0 0 Q (F0 m 0 ls [])) :
    Met l y ws rm (mPre D cI cJ av wc) Qc mc ms free := by
  refine Met.ofW (cc := cc) (maxL := maxL) (ret := ret) hy hw ?_
  intro p e s m args below meth c s₁ B hml hv
  obtain ⟨rfl, hP, hK, hD⟩ := hv
  have hl := lv_entry av (n := maxL) hn
  rw [lg_entry_eq]
  exact body p e s m _ below meth c _ _ _ rfl rfl B.exec B.bytes B.returns B.notSynchronized hml (findClass_of_methodNamed B.named) (atoms_spec (ws := ws) B.pre) hK.1 hK.2 hP ⟨hD.1, fun k q hk => ⟨k, q.2, hk⟩⟩ hl (fun h => ((name_of_methodNamed B.named B.method).1).trans h)
/-- a truth as the machine has it -/
def zb (P : Prop) [Decidable P] : Int32 := if P then 1 else 0
theorem zb_1 {P : Prop} [Decidable P] (h : P) : zb P = 1 := if_pos h
theorem zb_0 {P : Prop} [Decidable P] (h : ¬ P) : zb P = 0 := if_neg h
theorem zb_t {P : Prop} [Decidable P] (h : P) : (1 : Int32) = zb P := (if_pos h).symm
theorem zb_f {P : Prop} [Decidable P] (h : ¬ P) : (0 : Int32) = zb P := (if_neg h).symm
theorem zb_nar {P : Prop} [Decidable P] : narrow .boolean (.int (zb P)) = .int (zb P) := by
  by_cases h : P
  · rw [zb_1 h]; rfl
  · rw [zb_0 h]; rfl
theorem zb_fit {P : Prop} [Decidable P] : fits .boolean (.int (zb P)) = true := by
  by_cases h : P
  · rw [zb_1 h]; rfl
  · rw [zb_0 h]; rfl
theorem zb_iff {P Q : Prop} [Decidable P] [Decidable Q] (h : P ↔ Q) : zb P = zb Q := by
  by_cases h1 : P
  · rw [zb_1 h1, zb_1 (h.mp h1)]
  · rw [zb_0 h1, zb_0 (fun q => h1 (h.mpr q))]
theorem nwm_RX6_29 : Cond.methodLinkNest RX6 29 yX2_init "FireNets" ∈ nwL := by simp [nwL]
theorem nwm_RX3_41 : Cond.methodLinkNest RX3 41 yX6_within "FireNets" ∈ nwL := by simp [nwL]
theorem nwm_RX3_53 : Cond.methodLinkNest RX3 53 yX6_holds "FireNets" ∈ nwL := by simp [nwL]
theorem nwm_RX5_25 : Cond.methodLinkNest RX5 25 yX6_within "FireNets" ∈ nwL := by simp [nwL]
theorem nwm_RX1_56 : Cond.methodLinkNest RX1 56 yX6_holds "FireNets" ∈ nwL := by simp [nwL]
theorem nwm_RX0_71 : Cond.methodLinkNest RX0 71 yX6_within "FireNets" ∈ nwL := by simp [nwL]
section RW
variable {p : Program} {l : Launch} {e : Env} {R : Room} {s : State} {m : MethodId} {args : Array Value} {below : List Frame} {meth : Method} {c : Code} {H : Heap} {locs : List Loc} {cells slots : Nat} {Q : State → Prop} {cc : ByteArray} {pc : Nat} {ls : Array Slot} {rest : List Value} {D : va_G} {A : Nat → Prop} {a : Nat} {ws wc : va_W} {H0 : Heap} {cI cJ : ClassId}
theorem endRI {v x : Int32} (hx : p.tables.exec = Jvm.exec) (hb : c.code = cc) (hr : meth.sig.returnType = some .int) (hlocks : meth.locks = false) (hQ : Q = MQ below (qRI v) args s cells slots nA) (hS : va_S nA s.heap H locs) (hdg : decode cc pc = .ok (.ireturn, 1)) (hv : x = v) : W p l e R s m args below meth c H locs cells slots Q (F0 m pc ls [.int x]) := by
  subst hQ
  exact W.iret hx hb hr (fun t ht hW => ⟨⟨x, (), rfl, hv, trivial⟩, hS.F ht⟩) hS.2.2 hdg hlocks
theorem endRZ {v x : Int32} (hx : p.tables.exec = Jvm.exec) (hb : c.code = cc) (hr : meth.sig.returnType = some .boolean) (hlocks : meth.locks = false) (hQ : Q = MQ below (qRI v) args s cells slots nA) (hS : va_S nA s.heap H locs) (hdg : decode cc pc = .ok (.ireturn, 1)) (hz : narrow .boolean (.int x) = .int x) (hv : x = v) : W p l e R s m args below meth c H locs cells slots Q (F0 m pc ls [.int x]) := by
  subst hQ
  exact W.zret hx hb hr hz (fun t ht hW => ⟨⟨x, (), rfl, hv, trivial⟩, hS.F ht⟩) hS.2.2 hdg hlocks
theorem endRL {v x : Int64} (hx : p.tables.exec = Jvm.exec) (hb : c.code = cc) (hr : meth.sig.returnType = some .long) (hlocks : meth.locks = false) (hQ : Q = MQ below (qRL v) args s cells slots nA) (hS : va_S nA s.heap H locs) (hdg : decode cc pc = .ok (.lreturn, 1)) (hv : x = v) : W p l e R s m args below meth c H locs cells slots Q (F0 m pc ls [.long x]) := by
  subst hQ
  exact W.lret hx hb hr (fun t ht hW => ⟨⟨x, (), rfl, hv, trivial⟩, hS.F ht⟩) hS.2.2 hdg hlocks
theorem endMI {S : Type} {post : Int32 → S → Prop} {w' : S → va_W} {x : Int32} (u : S) (hx : p.tables.exec = Jvm.exec) (hb : c.code = cc) (hr : meth.sig.returnType = some .int) (hlocks : meth.locks = false) (hA : A = mA wc) (hQ : Q = MQ below (mQi D post w' wc) args s cells slots (mA wc)) (hS : va_S A s.heap H locs) (hP : va_P D vwCl ws H) (hdg : decode cc pc = .ok (.ireturn, 1)) (hw : ws = w' u) (hv : post x u) : W p l e R s m args below meth c H locs cells slots Q (F0 m pc ls [.int x]) := by
  subst hA; subst hQ; subst hw
  exact W.iret hx hb hr (fun t ht hW => ⟨⟨x, u, rfl, hv, by show va_P D vwCl (w' u) t.heap; rw [ht]; exact hP⟩, hS.F ht⟩) hS.2.2 hdg hlocks
theorem endMZ {S : Type} {post : Int32 → S → Prop} {w' : S → va_W} {x : Int32} (u : S) (hx : p.tables.exec = Jvm.exec) (hb : c.code = cc) (hr : meth.sig.returnType = some .boolean) (hlocks : meth.locks = false) (hA : A = mA wc) (hQ : Q = MQ below (mQi D post w' wc) args s cells slots (mA wc)) (hS : va_S A s.heap H locs) (hP : va_P D vwCl ws H) (hdg : decode cc pc = .ok (.ireturn, 1)) (hz : narrow .boolean (.int x) = .int x) (hw : ws = w' u) (hv : post x u) : W p l e R s m args below meth c H locs cells slots Q (F0 m pc ls [.int x]) := by
  subst hA; subst hQ; subst hw
  exact W.zret hx hb hr hz (fun t ht hW => ⟨⟨x, u, rfl, hv, by show va_P D vwCl (w' u) t.heap; rw [ht]; exact hP⟩, hS.F ht⟩) hS.2.2 hdg hlocks
theorem endML {S : Type} {post : Int64 → S → Prop} {w' : S → va_W} {x : Int64} (u : S) (hx : p.tables.exec = Jvm.exec) (hb : c.code = cc) (hr : meth.sig.returnType = some .long) (hlocks : meth.locks = false) (hA : A = mA wc) (hQ : Q = MQ below (mQl D post w' wc) args s cells slots (mA wc)) (hS : va_S A s.heap H locs) (hP : va_P D vwCl ws H) (hdg : decode cc pc = .ok (.lreturn, 1)) (hw : ws = w' u) (hv : post x u) : W p l e R s m args below meth c H locs cells slots Q (F0 m pc ls [.long x]) := by
  subst hA; subst hQ; subst hw
  exact W.lret hx hb hr (fun t ht hW => ⟨⟨x, u, rfl, hv, by show va_P D vwCl (w' u) t.heap; rw [ht]; exact hP⟩, hS.F ht⟩) hS.2.2 hdg hlocks
theorem endMV {S : Type} {post : S → Prop} {w' : S → va_W} (u : S) (hx : p.tables.exec = Jvm.exec) (hb : c.code = cc) (hr : meth.sig.returnType = none) (hlocks : meth.locks = false) (hA : A = mA wc) (hQ : Q = MQ below (mQv D post w' wc) args s cells slots (mA wc)) (hS : va_S A s.heap H locs) (hP : va_P D vwCl ws H) (hdg : decode cc pc = .ok (.return_, 1)) (hw : ws = w' u) (hv : post u) : W p l e R s m args below meth c H locs cells slots Q (F0 m pc ls []) := by
  subst hA; subst hQ; subst hw
  exact W.vret hx hb hr (fun t ht hW => ⟨⟨u, rfl, hv, by show va_P D vwCl (w' u) t.heap; rw [ht]; exact hP⟩, hS.F ht⟩) hS.2.2 hdg hlocks
/-- the top of the stack by another name -/
theorem r_top {x x' : Int32} (h : x = x') (k : W p l e R s m args below meth c H locs cells slots Q (F0 m pc ls (.int x' :: rest))) : W p l e R s m args below meth c H locs cells slots Q (F0 m pc ls (.int x :: rest)) := h ▸ k
theorem r_topl {x x' : Int64} (h : x = x') (k : W p l e R s m args below meth c H locs cells slots Q (F0 m pc ls (.long x' :: rest))) : W p l e R s m args below meth c H locs cells slots Q (F0 m pc ls (.long x :: rest)) := h ▸ k
/-- the cells by another name -/
theorem r_ws {ws' : va_W} (hP : va_P D vwCl ws H) (h : ws = ws') : va_P D vwCl ws' H := h ▸ hP
theorem r_in {k n : Nat} (hk : k < n) (h : k < 2 ^ 31) : vp_in (nI k) n := by
  intro q
  rcases q with q | q
  · exact nI_pos h q
  · rw [nI_clamp h] at q
    omega
theorem r_iald (hx : p.tables.exec = Jvm.exec) (hb : c.code = cc) (hK : va_K D vwCl (aT cI cJ) s) (hP : va_P D vwCl ws H) (q0 : Nat) {n : Nat} {f : Nat → Int32} (ha : ws[q0]? = some (a, .inl (cI, n, .inl f))) (k : Nat) {i : Int32} (hi : i = nI k) (hk : k < n) (h : k < 2 ^ 31) (hdg : decode cc pc = .ok (.iaload, 1))
    (kk : W p l e R s m args below meth c H locs cells slots Q (F0 m (pc + 1) ls (.int (f k) :: rest))) : W p l e R s m args below meth c H locs cells slots Q (F0 m pc ls (.int i :: .ref a :: rest)) := by
  subst hi
  refine va_iald hx hb hK hP q0 0 ha rfl (r_in hk h) hdg ?_
  rw [nI_clamp h]
  exact kk
theorem r_lald (hx : p.tables.exec = Jvm.exec) (hb : c.code = cc) (hK : va_K D vwCl (aT cI cJ) s) (hP : va_P D vwCl ws H) (q0 : Nat) {n : Nat} {f : Nat → Int64} (ha : ws[q0]? = some (a, .inl (cJ, n, .inr (.inl f)))) (k : Nat) {i : Int32} (hi : i = nI k) (hk : k < n) (h : k < 2 ^ 31) (hdg : decode cc pc = .ok (.laload, 1))
    (kk : W p l e R s m args below meth c H locs cells slots Q (F0 m (pc + 1) ls (.long (f k) :: rest))) : W p l e R s m args below meth c H locs cells slots Q (F0 m pc ls (.int i :: .ref a :: rest)) := by
  subst hi
  refine va_lald hx hb hK hP q0 1 ha rfl (r_in hk h) hdg ?_
  rw [nI_clamp h]
  exact kk
theorem r_iast (hx : p.tables.exec = Jvm.exec) (hb : c.code = cc) (hK : va_K D vwCl (aT cI cJ) s) (hP : va_P D vwCl ws H) (hD : va_D A ws) (hS : va_S A H0 H locs) (q0 : Nat) {n : Nat} {f : Nat → Int32} (ha : ws[q0]? = some (a, .inl (cI, n, .inl f))) (k : Nat) {i x : Int32} (hi : i = nI k) (hk : k < n) (h : k < 2 ^ 31) (hdg : decode cc pc = .ok (.iastore, 1))
    (kk : ∀ (H1 : Heap) (locs1 : List Loc), va_P D vwCl (ws.set q0 (a, .inl (cI, n, .inl (upd f k x)))) H1 → va_D A (ws.set q0 (a, .inl (cI, n, .inl (upd f k x)))) → va_S A H0 H1 locs1 → W p l e R s m args below meth c H1 locs1 cells slots Q (F0 m (pc + 1) ls rest)) : W p l e R s m args below meth c H locs cells slots Q (F0 m pc ls (.int x :: .int i :: .ref a :: rest)) := by
  subst hi
  refine va_iast hx hb hK hP hD hS q0 0 ha rfl (r_in hk h) hdg ?_
  rw [nI_clamp h]
  exact kk
theorem r_last (hx : p.tables.exec = Jvm.exec) (hb : c.code = cc) (hK : va_K D vwCl (aT cI cJ) s) (hP : va_P D vwCl ws H) (hD : va_D A ws) (hS : va_S A H0 H locs) (q0 : Nat) {n : Nat} {f : Nat → Int64} (ha : ws[q0]? = some (a, .inl (cJ, n, .inr (.inl f)))) (k : Nat) {i : Int32} {x : Int64} (hi : i = nI k) (hk : k < n) (h : k < 2 ^ 31) (hdg : decode cc pc = .ok (.lastore, 1))
    (kk : ∀ (H1 : Heap) (locs1 : List Loc), va_P D vwCl (ws.set q0 (a, .inl (cJ, n, .inr (.inl (vp_updL f k x))))) H1 → va_D A (ws.set q0 (a, .inl (cJ, n, .inr (.inl (vp_updL f k x))))) → va_S A H0 H1 locs1 → W p l e R s m args below meth c H1 locs1 cells slots Q (F0 m (pc + 1) ls rest)) : W p l e R s m args below meth c H locs cells slots Q (F0 m pc ls (.long x :: .int i :: .ref a :: rest)) := by
  subst hi
  refine va_last hx hb hK hP hD hS q0 1 ha rfl (r_in hk h) hdg ?_
  rw [nI_clamp h]
  exact kk
theorem r_iinc (hx : p.tables.exec = Jvm.exec) (hb : c.code = cc) {i nL : Nat} (j k : Nat) {lv lv' : List (Nat × Value)} (hdg : decode cc pc = .ok (.iinc i 1, 3)) (h : lv_has ls nL lv) (hk : lv[j]? = some (i, .int (nI k))) (hn : i < nL) (hl : (i, Value.int (nI (k + 1))) :: lv.filter (fun q => !(q.1 == i) && !(q.1 + 1 == i && q.2.category == 2)) = lv')
    (kk : ∀ ls' : Array Slot, lv_has ls' nL lv' → W p l e R s m args below meth c H locs cells slots Q (F0 m (pc + 3) ls' rest)) : W p l e R s m args below meth c H locs cells slots Q (F0 m pc ls rest) :=
  lv_iinc hx hb hdg h hk (by rw [← nI_1]; rfl) hn hl kk
theorem r_icmp_ge (hx : p.tables.exec = Jvm.exec) (hb : c.code = cc) (a b : Nat) {x y : Int32} {off : Int} {tgt : Nat} (hdg : decode cc pc = .ok (.if_icmp .ge off, 3)) (ht : (pc : Int) + off = (tgt : Int)) (ea : x = nI a) (eb : y = nI b) (ha : a < 2 ^ 31) (hb2 : b < 2 ^ 31)
    (kt : b ≤ a → W p l e R s m args below meth c H locs cells slots Q (F0 m tgt ls rest)) (kf : a < b → W p l e R s m args below meth c H locs cells slots Q (F0 m (pc + 3) ls rest)) : W p l e R s m args below meth c H locs cells slots Q (F0 m pc ls (.int y :: .int x :: rest)) := by
  subst ea; subst eb
  exact lv_icmp_ge hx hb hdg ht (fun h => kt ((nI_leI hb2 ha).mp h)) (fun h => kf (Nat.lt_of_not_le fun q => h ((nI_leI hb2 ha).mpr q)))
theorem r_icmp_gt (hx : p.tables.exec = Jvm.exec) (hb : c.code = cc) (a b : Nat) {x y : Int32} {off : Int} {tgt : Nat} (hdg : decode cc pc = .ok (.if_icmp .gt off, 3)) (ht : (pc : Int) + off = (tgt : Int)) (ea : x = nI a) (eb : y = nI b) (ha : a < 2 ^ 31) (hb2 : b < 2 ^ 31)
    (kt : b < a → W p l e R s m args below meth c H locs cells slots Q (F0 m tgt ls rest)) (kf : a ≤ b → W p l e R s m args below meth c H locs cells slots Q (F0 m (pc + 3) ls rest)) : W p l e R s m args below meth c H locs cells slots Q (F0 m pc ls (.int y :: .int x :: rest)) := by
  subst ea; subst eb
  exact lv_icmp_gt hx hb hdg ht (fun h => kt ((nI_ltI hb2 ha).mp h)) (fun h => kf (Nat.le_of_not_lt fun q => h ((nI_ltI hb2 ha).mpr q)))
theorem r_icmp_lt (hx : p.tables.exec = Jvm.exec) (hb : c.code = cc) (a b : Nat) {x y : Int32} {off : Int} {tgt : Nat} (hdg : decode cc pc = .ok (.if_icmp .lt off, 3)) (ht : (pc : Int) + off = (tgt : Int)) (ea : x = nI a) (eb : y = nI b) (ha : a < 2 ^ 31) (hb2 : b < 2 ^ 31)
    (kt : a < b → W p l e R s m args below meth c H locs cells slots Q (F0 m tgt ls rest)) (kf : b ≤ a → W p l e R s m args below meth c H locs cells slots Q (F0 m (pc + 3) ls rest)) : W p l e R s m args below meth c H locs cells slots Q (F0 m pc ls (.int y :: .int x :: rest)) := by
  subst ea; subst eb
  exact lv_icmp_lt hx hb hdg ht (fun h => kt ((nI_ltI ha hb2).mp h)) (fun h => kf (Nat.le_of_not_lt fun q => h ((nI_ltI ha hb2).mpr q)))
theorem r_icmp_le (hx : p.tables.exec = Jvm.exec) (hb : c.code = cc) (a b : Nat) {x y : Int32} {off : Int} {tgt : Nat} (hdg : decode cc pc = .ok (.if_icmp .le off, 3)) (ht : (pc : Int) + off = (tgt : Int)) (ea : x = nI a) (eb : y = nI b) (ha : a < 2 ^ 31) (hb2 : b < 2 ^ 31)
    (kt : a ≤ b → W p l e R s m args below meth c H locs cells slots Q (F0 m tgt ls rest)) (kf : b < a → W p l e R s m args below meth c H locs cells slots Q (F0 m (pc + 3) ls rest)) : W p l e R s m args below meth c H locs cells slots Q (F0 m pc ls (.int y :: .int x :: rest)) := by
  subst ea; subst eb
  exact lv_icmp_le hx hb hdg ht (fun h => kt ((nI_leI ha hb2).mp h)) (fun h => kf (Nat.lt_of_not_le fun q => h ((nI_leI ha hb2).mpr q)))
theorem r_icmp_eq (hx : p.tables.exec = Jvm.exec) (hb : c.code = cc) (a b : Nat) {x y : Int32} {off : Int} {tgt : Nat} (hdg : decode cc pc = .ok (.if_icmp .eq off, 3)) (ht : (pc : Int) + off = (tgt : Int)) (ea : x = nI a) (eb : y = nI b) (ha : a < 2 ^ 31) (hb2 : b < 2 ^ 31)
    (kt : a = b → W p l e R s m args below meth c H locs cells slots Q (F0 m tgt ls rest)) (kf : a ≠ b → W p l e R s m args below meth c H locs cells slots Q (F0 m (pc + 3) ls rest)) : W p l e R s m args below meth c H locs cells slots Q (F0 m pc ls (.int y :: .int x :: rest)) := by
  subst ea; subst eb
  exact lv_icmp_eq hx hb hdg ht (fun h => kt ((nI_eq ha hb2).mp h)) (fun h => kf (fun q => h ((nI_eq ha hb2).mpr q)))
theorem r_icmp_ne (hx : p.tables.exec = Jvm.exec) (hb : c.code = cc) (a b : Nat) {x y : Int32} {off : Int} {tgt : Nat} (hdg : decode cc pc = .ok (.if_icmp .ne off, 3)) (ht : (pc : Int) + off = (tgt : Int)) (ea : x = nI a) (eb : y = nI b) (ha : a < 2 ^ 31) (hb2 : b < 2 ^ 31)
    (kt : a ≠ b → W p l e R s m args below meth c H locs cells slots Q (F0 m tgt ls rest)) (kf : a = b → W p l e R s m args below meth c H locs cells slots Q (F0 m (pc + 3) ls rest)) : W p l e R s m args below meth c H locs cells slots Q (F0 m pc ls (.int y :: .int x :: rest)) := by
  subst ea; subst eb
  exact lv_icmp_ne hx hb hdg ht (fun h => kt (fun q => h ((nI_eq ha hb2).mpr q))) (fun h => kf ((nI_eq ha hb2).mp h))
theorem r_zeq {P : Prop} [Decidable P] (hx : p.tables.exec = Jvm.exec) (hb : c.code = cc) {off : Int} {tgt : Nat} (hdg : decode cc pc = .ok (.ifCond .eq off, 3)) (ht : (pc : Int) + off = (tgt : Int))
    (kt : ¬ P → W p l e R s m args below meth c H locs cells slots Q (F0 m tgt ls rest)) (kf : P → W p l e R s m args below meth c H locs cells slots Q (F0 m (pc + 3) ls rest)) : W p l e R s m args below meth c H locs cells slots Q (F0 m pc ls (.int (zb P) :: rest)) :=
  lv_if_eq hx hb hdg ht (fun h => kt (fun q => by rw [zb_1 q] at h; exact absurd h (by decide))) (fun h => kf (Decidable.byContradiction fun q => h (zb_0 q)))
theorem r_zne {P : Prop} [Decidable P] (hx : p.tables.exec = Jvm.exec) (hb : c.code = cc) {off : Int} {tgt : Nat} (hdg : decode cc pc = .ok (.ifCond .ne off, 3)) (ht : (pc : Int) + off = (tgt : Int))
    (kt : P → W p l e R s m args below meth c H locs cells slots Q (F0 m tgt ls rest)) (kf : ¬ P → W p l e R s m args below meth c H locs cells slots Q (F0 m (pc + 3) ls rest)) : W p l e R s m args below meth c H locs cells slots Q (F0 m pc ls (.int (zb P) :: rest)) :=
  lv_if_ne hx hb hdg ht (fun h => kt (Decidable.byContradiction fun q => h (zb_0 q))) (fun h => kf (fun q => by rw [zb_1 q] at h; exact absurd h (by decide)))
/-- a call behind its run: of a method that only reads -/
theorem goRI {st0 : List Value} {av : Array Value} {A0 : Nat → Prop} {v : Int32} (hP : va_P D vwCl ws H) (hS : va_S A0 H0 H locs) (hr : va_Run p l e R s m args below meth c H locs cells slots 0 0 (F0 m pc ls st0) rest (qRI v av) nA)
    (kk : ∀ (H1 : Heap) (locs1 : List Loc), va_P D vwCl ws H1 → va_S A0 H0 H1 locs1 → W p l e R s m args below meth c H1 locs1 cells slots Q (F0 m (pc + 3) ls (.int v :: rest))) : W p l e R s m args below meth c H locs cells slots Q (F0 m pc ls st0) := by
  refine va_calli (A0 := A0) (H0 := H0) hr hS (fun q _ h => h.elim) (fun q h => h.elim) (fun r u t H1 locs1 ht hvm hp hB hz hk hS1 => ?_)
  subst hp
  exact kk H1 locs1 (hP.kept fun k q hkq => hk q.1 (hP k q hkq).lt (fun h => h)) hS1
theorem goRL {st0 : List Value} {av : Array Value} {A0 : Nat → Prop} {v : Int64} (hP : va_P D vwCl ws H) (hS : va_S A0 H0 H locs) (hr : va_Run p l e R s m args below meth c H locs cells slots 0 0 (F0 m pc ls st0) rest (qRL v av) nA)
    (kk : ∀ (H1 : Heap) (locs1 : List Loc), va_P D vwCl ws H1 → va_S A0 H0 H1 locs1 → W p l e R s m args below meth c H1 locs1 cells slots Q (F0 m (pc + 3) ls (.long v :: rest))) : W p l e R s m args below meth c H locs cells slots Q (F0 m pc ls st0) := by
  refine va_calll (A0 := A0) (H0 := H0) hr hS (fun q _ h => h.elim) (fun q h => h.elim) (fun r u t H1 locs1 ht hvm hp hB hz hk hS1 => ?_)
  subst hp
  exact kk H1 locs1 (hP.kept fun k q hkq => hk q.1 (hP k q hkq).lt (fun h => h)) hS1
theorem goMI {S : Type} {post : Int32 → S → Prop} {w' : S → va_W} {st0 : List Value} {av : Array Value} {A0 : Nat → Prop} (hP : va_P D vwCl ws H) (hD : va_D A0 ws) (hS : va_S A0 H0 H locs) (hr : va_Run p l e R s m args below meth c H locs cells slots 0 0 (F0 m pc ls st0) rest (mQi D post w' wc av) (mA wc)) (is : List Nat) (hC : is.map (fun i => ws[i]?) = wc.map some) (hn : va_nd is = true) (he : ∀ u, (w' u).map (fun q => q.1) = wc.map (fun q => q.1))
    (kk : ∀ (r : Int32) (u : S) (H1 : Heap) (locs1 : List Loc), post r u → va_P D vwCl (va_lay ws is (w' u)) H1 → va_D A0 (va_lay ws is (w' u)) → va_S A0 H0 H1 locs1 → W p l e R s m args below meth c H1 locs1 cells slots Q (F0 m (pc + 3) ls (.int r :: rest))) : W p l e R s m args below meth c H locs cells slots Q (F0 m pc ls st0) := by
  refine va_calli (A0 := A0) (H0 := H0) hr hS (fun q _ h => mA_free hD is hC q h) (fun q h => mA_free hD is hC q h) (fun r u t H1 locs1 ht hvm hp hB hz hk hS1 => ?_)
  have hB : va_P D vwCl (w' u) t.heap := hB
  rw [ht] at hB
  obtain ⟨h1, h2⟩ := va_joinL hP hD is hC hn hk hB (he u)
  exact kk r u H1 locs1 hp h1 h2 hS1
theorem goML {S : Type} {post : Int64 → S → Prop} {w' : S → va_W} {st0 : List Value} {av : Array Value} {A0 : Nat → Prop} (hP : va_P D vwCl ws H) (hD : va_D A0 ws) (hS : va_S A0 H0 H locs) (hr : va_Run p l e R s m args below meth c H locs cells slots 0 0 (F0 m pc ls st0) rest (mQl D post w' wc av) (mA wc)) (is : List Nat) (hC : is.map (fun i => ws[i]?) = wc.map some) (hn : va_nd is = true) (he : ∀ u, (w' u).map (fun q => q.1) = wc.map (fun q => q.1))
    (kk : ∀ (r : Int64) (u : S) (H1 : Heap) (locs1 : List Loc), post r u → va_P D vwCl (va_lay ws is (w' u)) H1 → va_D A0 (va_lay ws is (w' u)) → va_S A0 H0 H1 locs1 → W p l e R s m args below meth c H1 locs1 cells slots Q (F0 m (pc + 3) ls (.long r :: rest))) : W p l e R s m args below meth c H locs cells slots Q (F0 m pc ls st0) := by
  refine va_calll (A0 := A0) (H0 := H0) hr hS (fun q _ h => mA_free hD is hC q h) (fun q h => mA_free hD is hC q h) (fun r u t H1 locs1 ht hvm hp hB hz hk hS1 => ?_)
  have hB : va_P D vwCl (w' u) t.heap := hB
  rw [ht] at hB
  obtain ⟨h1, h2⟩ := va_joinL hP hD is hC hn hk hB (he u)
  exact kk r u H1 locs1 hp h1 h2 hS1
theorem goMV {S : Type} {post : S → Prop} {w' : S → va_W} {st0 : List Value} {av : Array Value} {A0 : Nat → Prop} (hP : va_P D vwCl ws H) (hD : va_D A0 ws) (hS : va_S A0 H0 H locs) (hr : va_Run p l e R s m args below meth c H locs cells slots 0 0 (F0 m pc ls st0) rest (mQv D post w' wc av) (mA wc)) (is : List Nat) (hC : is.map (fun i => ws[i]?) = wc.map some) (hn : va_nd is = true) (he : ∀ u, (w' u).map (fun q => q.1) = wc.map (fun q => q.1))
    (kk : ∀ (u : S) (H1 : Heap) (locs1 : List Loc), post u → va_P D vwCl (va_lay ws is (w' u)) H1 → va_D A0 (va_lay ws is (w' u)) → va_S A0 H0 H1 locs1 → W p l e R s m args below meth c H1 locs1 cells slots Q (F0 m (pc + 3) ls rest)) : W p l e R s m args below meth c H locs cells slots Q (F0 m pc ls st0) := by
  refine va_callv (A0 := A0) (H0 := H0) hr hS (fun q _ h => mA_free hD is hC q h) (fun q h => mA_free hD is hC q h) (fun u t H1 locs1 ht hvm hp hB hz hk hS1 => ?_)
  have hB : va_P D vwCl (w' u) t.heap := hB
  rw [ht] at hB
  obtain ⟨h1, h2⟩ := va_joinL hP hD is hC hn hk hB (he u)
  exact kk u H1 locs1 hp h1 h2 hS1
/-- what is asked at a call -/
theorem preR {As : List Value} (hK : va_K D vwCl (aT cI cJ) s) (hN : NW s) (hP : va_P D vwCl ws H) (is : List Nat) (hC : is.map (fun i => ws[i]?) = wc.map some) : PreS s H (rPre D cI cJ As wc) As :=
  ⟨rPre_blind, fun U hU hW => ⟨rfl, by rw [hU]; exact va_subM hP is hC, KK.warm hW ⟨hK, hN⟩⟩⟩
theorem preM {As : List Value} (hK : va_K D vwCl (aT cI cJ) s) (hN : NW s) (hP : va_P D vwCl ws H) (hD : va_D A ws) (is : List Nat) (hC : is.map (fun i => ws[i]?) = wc.map some) (hn : va_nd is = true) : PreS s H (mPre D cI cJ As wc) As :=
  ⟨mPre_blind, fun U hU hW => ⟨rfl, by rw [hU]; exact va_subM hP is hC, KK.warm hW ⟨hK, hN⟩, (hD.sub is hn hC).weaken (fun _ _ _ _ => trivial)⟩⟩
theorem preRV {b : Addr} {C : String} {As : List Value} {ci : Nat} {q : vw_C} {fs : List Value} (hK : va_K D vwCl (aT cI cJ) s) (hN : NW s) (hP : va_P D vwCl ws H) (q0 : Nat) (hc : vwCl[ci]? = some q) (hq : q.1 = C) (he : ws[q0]? = some (b, .inr (ci, fs))) (is : List Nat) (hC : is.map (fun i => ws[i]?) = wc.map some) : PreV s H C b (rPre D cI cJ (.ref b :: As) wc) As :=
  ⟨rPre_blind, by rw [← hq]; exact va_recv hK hP hc he, (preR (As := .ref b :: As) hK hN hP is hC).2⟩
theorem preMV {b : Addr} {C : String} {As : List Value} {ci : Nat} {q : vw_C} {fs : List Value} (hK : va_K D vwCl (aT cI cJ) s) (hN : NW s) (hP : va_P D vwCl ws H) (hD : va_D A ws) (q0 : Nat) (hc : vwCl[ci]? = some q) (hq : q.1 = C) (he : ws[q0]? = some (b, .inr (ci, fs))) (is : List Nat) (hC : is.map (fun i => ws[i]?) = wc.map some) (hn : va_nd is = true) : PreV s H C b (mPre D cI cJ (.ref b :: As) wc) As :=
  ⟨mPre_blind, by rw [← hq]; exact va_recv hK hP hc he, (preM (As := .ref b :: As) hK hN hP hD is hC hn).2⟩
end RW

/-! constructors: what makes cells -/
def cPre (D : va_G) (cI cJ : ClassId) (av : List Value) (ws : va_W) (sz : Nat) : Array Value → State → Prop := va_Pc av (fun U => U.heap.size = sz ∧ va_P D vwCl ws U.heap ∧ KK D cI cJ U ∧ va_D (fun _ => True) ws)
theorem cPre_blind {D : va_G} {cI cJ : ClassId} {av : List Value} {ws : va_W} {sz : Nat} : FrameBlind (cPre D cI cJ av ws sz) := fun a U g mk q => ⟨q.1, q.2.1, q.2.2.1, q.2.2.2.1.same (u := U) (U := U.calling g mk a) rfl, q.2.2.2.2⟩
abbrev cQ {S : Type} (D : va_G) (w' : S → va_W) (wc : va_W) (sz : Nat) : Array Value → State → Outcome → State → Prop := va_Qv (fun _ : S => True) (fun u t => va_P D vwCl (w' u) t.heap ∧ va_D (va_A wc sz) (w' u)) (va_A wc sz)
theorem startC {l : Launch} {D : va_G} {cI cJ : ClassId} {y : MethodName} {ws ws' : List Cond} {rm : Room} {av : List Value} {wc : va_W} {sz : Nat} {Qc : Array Value → State → Outcome → State → Prop} {mc ms : Nat} {cc : ByteArray} {maxL : Nat} {ret : Option FieldType} (hy : plainName y.cls = true) (hw : ws = Cond.code y cc maxL ret :: ws') (hn : (lg_sl av).length ≤ maxL)
    (body : ∀ (p : Program) (e : Env) (s : State) (m : MethodId) (args : Array Value) (below : List Frame) (meth : Method) (c : Code) (ls : Array Slot) (Q : State → Prop) (A : Nat → Prop), A = va_A wc sz → (∀ q : Nat, s.heap.size ≤ q → A q) → Q = MQ below Qc args s mc ms A → p.tables.exec = Jvm.exec → c.code = cc → meth.sig.returnType = ret → meth.locks = false → c.maxLocals = maxL → s.vm.findClass y.cls = some m.cls → (∀ w ∈ ws, w.before args s = true) → va_K D vwCl (aT cI cJ) s → NW s → va_P D vwCl wc s.heap → va_D A wc → lv_has ls maxL (lv_args 0 av) → (y.name = "<init>" → meth.name = "<init>") → W p l e rm s m args below meth c s.heap [] 0 0 Q (F0 m 0 ls [])) :
    Met l y ws rm (cPre D cI cJ av wc sz) Qc mc ms (va_A wc sz) := by
  refine Met.ofW (cc := cc) (maxL := maxL) (ret := ret) hy hw ?_
  intro p e s m args below meth c s₁ B hml hv
  obtain ⟨rfl, hsz, hP, hK, hD⟩ := hv
  have hl := lv_entry av (n := maxL) hn
  rw [lg_entry_eq]
  exact body p e s m _ below meth c _ _ _ rfl (fun q h => Or.inr (hsz ▸ h)) rfl B.exec B.bytes B.returns B.notSynchronized hml (findClass_of_methodNamed B.named) (atoms_spec (ws := ws) B.pre) hK.1 hK.2 hP hD.self hl (fun h => ((name_of_methodNamed B.named B.method).1).trans h)
section RC
variable {p : Program} {l : Launch} {e : Env} {R : Room} {s : State} {m : MethodId} {args : Array Value} {below : List Frame} {meth : Method} {c : Code} {H : Heap} {locs : List Loc} {cells slots : Nat} {Q : State → Prop} {cc : ByteArray} {pc : Nat} {ls : Array Slot} {rest : List Value} {D : va_G} {A : Nat → Prop} {a : Nat} {ws wc : va_W} {H0 : Heap} {cI cJ : ClassId}
theorem endC {S : Type} {w' : S → va_W} {sz : Nat} (u : S) (hx : p.tables.exec = Jvm.exec) (hb : c.code = cc) (hr : meth.sig.returnType = none) (hlocks : meth.locks = false) (hAe : A = va_A wc sz) (hQ : Q = MQ below (cQ D w' wc sz) args s cells slots A) (hS : va_S A s.heap H locs) (hP : va_P D vwCl ws H) (hD : va_D A ws) (hdg : decode cc pc = .ok (.return_, 1)) (hw : ws = w' u) : W p l e R s m args below meth c H locs cells slots Q (F0 m pc ls []) := by
  subst hAe; subst hQ; subst hw
  exact W.vret hx hb hr (fun t ht hW => ⟨⟨u, rfl, trivial, by show va_P D vwCl (w' u) t.heap; rw [ht]; exact hP, hD⟩, hS.F ht⟩) hS.2.2 hdg hlocks
theorem preC {As : List Value} (hK : va_K D vwCl (aT cI cJ) s) (hN : NW s) (hP : va_P D vwCl ws H) (hD : va_D A ws) (is : List Nat) (hC : is.map (fun i => ws[i]?) = wc.map some) (hn : va_nd is = true) : PreS s H (cPre D cI cJ As wc H.size) As :=
  ⟨cPre_blind, fun U hU hW => ⟨rfl, by rw [hU], by rw [hU]; exact va_subM hP is hC, KK.warm hW ⟨hK, hN⟩, (hD.sub is hn hC).weaken (fun _ _ _ _ => trivial)⟩⟩
theorem goC {S : Type} {w' : S → va_W} {mc ms : Nat} {st0 : List Value} {av : Array Value} {A0 : Nat → Prop} {wr : va_W} (hP : va_P D vwCl ws H) (hD : va_D A0 ws) (hS : va_S A0 H0 H locs) (hA : ∀ q : Nat, H0.size ≤ q → A0 q) (hr : va_Run p l e R s m args below meth c H locs cells slots mc ms (F0 m pc ls st0) rest (cQ D w' wc H.size av) (va_A wc H.size)) (isC isR : List Nat) (hC : isC.map (fun i => ws[i]?) = wc.map some) (hR : isR.map (fun i => ws[i]?) = wr.map some) (hn : va_nd isR = true) (hdis : ∀ i ∈ isR, i ∉ isC)
    (kk : ∀ (u : S) (H1 : Heap) (locs1 : List Loc), va_P D vwCl (wr ++ w' u) H1 → va_D A0 (wr ++ w' u) → va_S A0 H0 H1 locs1 → W p l e R s m args below meth c H1 locs1 (cells + mc) (slots + ms) Q (F0 m (pc + 3) ls rest)) : W p l e R s m args below meth c H locs cells slots Q (F0 m pc ls st0) := by
  have hF := va_free (wc := wc) hD hS hA isC hC
  refine va_callv (A0 := A0) (H0 := H0) hr hS (fun q _ h => hF q h) hF (fun u t H1 locs1 ht hvm hp hB hz hk hS1 => ?_)
  obtain ⟨hP1, hD1⟩ := hB
  rw [ht] at hP1
  obtain ⟨h1, h2⟩ := va_join hP hD isC isR hC hR hn hdis hk hF hP1 hD1
  exact kk u H1 locs1 h1 h2 hS1
theorem goNI (hx : p.tables.exec = Jvm.exec) (hb : c.code = cc) (harr : (Cond.arrayClass .int).before args s = true) (hK : va_K D vwCl (aT cI cJ) s) (hP : va_P D vwCl ws H) (hD : va_D A ws) (hS : va_S A H0 H locs) (hA : ∀ q : Nat, H0.size ≤ q → A q) {n : Int32} {N : Nat} (hn : ¬ n < 0) (hN : n.toNatClampNeg = N) (hbytes : N * componentBytes .int ≤ 536870912) (hcells : cells + 1 ≤ R.cells) (hslots : slots + N ≤ R.slots) (hdg : decode cc pc = .ok (.newarray .int, 2))
    (kk : ∀ (q : Nat) (H1 : Heap), va_P D vwCl (ws ++ [(q, .inl (cI, N, .inl (fun _ => 0)))]) H1 → va_D A (ws ++ [(q, .inl (cI, N, .inl (fun _ => 0)))]) → va_S A H0 H1 locs → W p l e R s m args below meth c H1 locs (cells + 1) (slots + N) Q (F0 m (pc + 2) ls (.ref q :: rest))) : W p l e R s m args below meth c H locs cells slots Q (F0 m pc ls (.int n :: rest)) := by
  refine va_newa (atype := .int) (ty := .int) (a0 := (N, .inl (fun _ => 0))) hx hb harr rfl hK hP hD hS hA (fun _ => rfl) hn hN hbytes hcells hslots hdg (fun q cA H1 hK1 hP1 hD1 hS1 => ?_)
  have e1 : s.vm.findClass ("[" ++ FieldType.int.toString) = some cA := (hK1.2 2 (cA, .int) rfl).2
  have e2 : s.vm.findClass ("[" ++ FieldType.int.toString) = some cI := (hK.2 0 (cI, .int) rfl).2
  have e3 : cA = cI := Option.some.inj (e1.symm.trans e2)
  subst e3
  exact kk q H1 hP1 hD1 hS1
theorem goNJ (hx : p.tables.exec = Jvm.exec) (hb : c.code = cc) (harr : (Cond.arrayClass .long).before args s = true) (hK : va_K D vwCl (aT cI cJ) s) (hP : va_P D vwCl ws H) (hD : va_D A ws) (hS : va_S A H0 H locs) (hA : ∀ q : Nat, H0.size ≤ q → A q) {n : Int32} {N : Nat} (hn : ¬ n < 0) (hN : n.toNatClampNeg = N) (hbytes : N * componentBytes .long ≤ 536870912) (hcells : cells + 1 ≤ R.cells) (hslots : slots + N ≤ R.slots) (hdg : decode cc pc = .ok (.newarray .long, 2))
    (kk : ∀ (q : Nat) (H1 : Heap), va_P D vwCl (ws ++ [(q, .inl (cJ, N, .inr (.inl (fun _ => 0))))]) H1 → va_D A (ws ++ [(q, .inl (cJ, N, .inr (.inl (fun _ => 0))))]) → va_S A H0 H1 locs → W p l e R s m args below meth c H1 locs (cells + 1) (slots + N) Q (F0 m (pc + 2) ls (.ref q :: rest))) : W p l e R s m args below meth c H locs cells slots Q (F0 m pc ls (.int n :: rest)) := by
  refine va_newa (atype := .long) (ty := .long) (a0 := (N, .inr (.inl (fun _ => 0)))) hx hb harr rfl hK hP hD hS hA (fun _ => rfl) hn hN hbytes hcells hslots hdg (fun q cA H1 hK1 hP1 hD1 hS1 => ?_)
  have e1 : s.vm.findClass ("[" ++ FieldType.long.toString) = some cA := (hK1.2 2 (cA, .long) rfl).2
  have e2 : s.vm.findClass ("[" ++ FieldType.long.toString) = some cJ := (hK.2 1 (cJ, .long) rfl).2
  have e3 : cA = cJ := Option.some.inj (e1.symm.trans e2)
  subst e3
  exact kk q H1 hP1 hD1 hS1
end RC
def rmX0_init : Room := { frames := 1, cells := 6, slots := 267, locals := 40 }
theorem kdX0_init : yX0_init.cls = RX0 ∧ yX0_init.cls ≠ "java/lang/invoke/MethodHandle" ∧ yX0_init.cls ≠ "java/lang/invoke/VarHandle" ∧ (parseMethodDescriptor yX0_init.desc).map (fun d => d.parameters.length) = some 0 := ⟨rfl, by decide +kernel, by decide +kernel, by decide +kernel⟩
set_option maxRecDepth 100000 in
set_option maxHeartbeats 1000000 in
theorem kX0_init (l : Launch) (D : va_G) (cI cJ : ClassId) (q0 : Nat) (sz : Nat) : Met l yX0_init wsX0_init rmX0_init (cPre D cI cJ [.ref q0] [(q0, .inr (0, [.int 0, .int 0, .int 0, .null, .null, .null, .null, .null, .null]))] sz) (cQ D (fun (u : Nat × Nat × Nat × Nat × Nat × Nat) => [(q0, .inr (0, [.int 0, .int 0, .int 0, .ref u.1, .ref u.2.1, .ref u.2.2.1, .ref u.2.2.2.1, .ref u.2.2.2.2.1, .ref u.2.2.2.2.2])), (u.1, .inl (cI, 40, .inl (fun _ => 0))), (u.2.1, .inl (cI, 40, .inl (fun _ => 0))), (u.2.2.1, .inl (cI, 40, .inl (fun _ => 0))), (u.2.2.2.1, .inl (cJ, 49, .inr (.inl (fun _ => 0)))), (u.2.2.2.2.1, .inl (cJ, 49, .inr (.inl (fun _ => 0)))), (u.2.2.2.2.2, .inl (cJ, 49, .inr (.inl (fun _ => 0))))]) [(q0, .inr (0, [.int 0, .int 0, .int 0, .null, .null, .null, .null, .null, .null]))] sz) 6 267 (va_A [(q0, .inr (0, [.int 0, .int 0, .int 0, .null, .null, .null, .null, .null, .null]))] sz) := by
  refine startC (cc := cX0_init) (maxL := 1) (ret := none) (by decide) rfl (Nat.le_of_ble_eq_true rfl) ?_
  intro p e s m args below meth c ls Q A hA hAg hQ hx hb hr hlocks hml hown hts hK hN hP hD hl hin
  have hin : meth.name = "<init>" := hin rfl
  have hown : s.vm.findClass RX0 = some m.cls := hown
  have hi_0 : ∀ w ∈ wsX00, w ∈ wsX0_init := by decide +kernel
  have hf_11 := hts (.fieldLink RX0 11 "FireNets$Board" "wallX" "[I") (by decide +kernel)
  have hf_15 := hts (.fieldLink RX0 15 "FireNets$Board" "wallY" "[I") (by decide +kernel)
  have hf_18 := hts (.fieldLink RX0 18 "FireNets$Board" "wallTick" "[I") (by decide +kernel)
  have hf_21 := hts (.fieldLink RX0 21 "FireNets$Board" "burning" "[J") (by decide +kernel)
  have hf_25 := hts (.fieldLink RX0 25 "FireNets$Board" "after" "[J") (by decide +kernel)
  have hf_28 := hts (.fieldLink RX0 28 "FireNets$Board" "guarded" "[J") (by decide +kernel)
  have hoi_5 := hts (.methodLink RX0 5 objectInit) (by decide +kernel)
  have hoi_i := hts (.instanceMethod objectInit) (by decide +kernel)
  have hoi_c := hts (.code objectInit ⟨#[0xb1]⟩ 1 none) (by decide +kernel)
  have harr_I := hts (.arrayClass .int) (by decide +kernel)
  have harr_J := hts (.arrayClass .long) (by decide +kernel)
  have hS : va_S A s.heap s.heap [] := va_S.rf
  have hl : lv_has ls 1 [(0, .ref q0)] := hl
  have hP : va_P D vwCl [(q0, .inr (0, [.int 0, .int 0, .int 0, .null, .null, .null, .null, .null, .null]))] s.heap := hP
  refine lv_aload_n hx hb dX0_init_0 rfl (lv_at hl 0 rfl) ?_
  refine W.objInit hx hb hown hoi_5 hoi_i hoi_c rfl (by rw [hml]; exact hl.1) rfl dX0_init_1 (Nat.le_of_ble_eq_true rfl) (Nat.le_of_ble_eq_true rfl) ?_
  refine W.eq (g2 := F0 m 4 ls []) rfl ?_
  refine lv_aload_n hx hb dX0_init_4 rfl (lv_at hl 0 rfl) ?_
  refine lv_bipush (v := 40) hx hb dX0_init_5 (by decide) ?_
  refine goNI hx hb harr_I hK hP hD hS hAg (n := 40) (N := 40) (by decide) (by decide) (by decide) (Nat.le_of_ble_eq_true rfl) (Nat.le_of_ble_eq_true rfl) dX0_init_7 (fun q_1 H hP hD hS => ?_)
  have hP : va_P D vwCl [(q0, .inr (0, [.int 0, .int 0, .int 0, .null, .null, .null, .null, .null, .null])), (q_1, .inl (cI, 40, .inl (fun _ => 0)))] H := hP
  have hD : va_D A [(q0, .inr (0, [.int 0, .int 0, .int 0, .null, .null, .null, .null, .null, .null])), (q_1, .inl (cI, 40, .inl (fun _ => 0)))] := hD
  refine W.widen (k := 1) (n := 40) (Nat.le_of_ble_eq_true rfl) (Nat.le_of_ble_eq_true rfl) ?_
  refine va_putF (D := D) (ci := 0) (v := .ref q_1) (ty := (.array .int)) (C := RX0) (T := TX0) (N := 9) hx hb hts hi_0 tyX0 tyX0_ok nmX0 hown hK hP hD hS 0 rfl rfl 3 (by decide) hf_11 (fun _ h9 => h9) rfl hin rfl (by decide +kernel) rfl rfl (Nat.le_of_ble_eq_true rfl) dX0_init_9 (fun H locs hP hD hS => ?_)
  have hP : va_P D vwCl [(q0, .inr (0, [.int 0, .int 0, .int 0, .ref q_1, .null, .null, .null, .null, .null])), (q_1, .inl (cI, 40, .inl (fun _ => 0)))] H := hP
  have hD : va_D A [(q0, .inr (0, [.int 0, .int 0, .int 0, .ref q_1, .null, .null, .null, .null, .null])), (q_1, .inl (cI, 40, .inl (fun _ => 0)))] := hD
  refine lv_aload_n hx hb dX0_init_12 rfl (lv_at hl 0 rfl) ?_
  refine lv_bipush (v := 40) hx hb dX0_init_13 (by decide) ?_
  refine goNI hx hb harr_I hK hP hD hS hAg (n := 40) (N := 40) (by decide) (by decide) (by decide) (Nat.le_of_ble_eq_true rfl) (Nat.le_of_ble_eq_true rfl) dX0_init_15 (fun q_2 H hP hD hS => ?_)
  have hP : va_P D vwCl [(q0, .inr (0, [.int 0, .int 0, .int 0, .ref q_1, .null, .null, .null, .null, .null])), (q_1, .inl (cI, 40, .inl (fun _ => 0))), (q_2, .inl (cI, 40, .inl (fun _ => 0)))] H := hP
  have hD : va_D A [(q0, .inr (0, [.int 0, .int 0, .int 0, .ref q_1, .null, .null, .null, .null, .null])), (q_1, .inl (cI, 40, .inl (fun _ => 0))), (q_2, .inl (cI, 40, .inl (fun _ => 0)))] := hD
  refine W.widen (k := 2) (n := 80) (Nat.le_of_ble_eq_true rfl) (Nat.le_of_ble_eq_true rfl) ?_
  refine va_putF (D := D) (ci := 0) (v := .ref q_2) (ty := (.array .int)) (C := RX0) (T := TX0) (N := 9) hx hb hts hi_0 tyX0 tyX0_ok nmX0 hown hK hP hD hS 0 rfl rfl 4 (by decide) hf_15 (fun _ h9 => h9) rfl hin rfl (by decide +kernel) rfl rfl (Nat.le_of_ble_eq_true rfl) dX0_init_17 (fun H locs hP hD hS => ?_)
  have hP : va_P D vwCl [(q0, .inr (0, [.int 0, .int 0, .int 0, .ref q_1, .ref q_2, .null, .null, .null, .null])), (q_1, .inl (cI, 40, .inl (fun _ => 0))), (q_2, .inl (cI, 40, .inl (fun _ => 0)))] H := hP
  have hD : va_D A [(q0, .inr (0, [.int 0, .int 0, .int 0, .ref q_1, .ref q_2, .null, .null, .null, .null])), (q_1, .inl (cI, 40, .inl (fun _ => 0))), (q_2, .inl (cI, 40, .inl (fun _ => 0)))] := hD
  refine lv_aload_n hx hb dX0_init_20 rfl (lv_at hl 0 rfl) ?_
  refine lv_bipush (v := 40) hx hb dX0_init_21 (by decide) ?_
  refine goNI hx hb harr_I hK hP hD hS hAg (n := 40) (N := 40) (by decide) (by decide) (by decide) (Nat.le_of_ble_eq_true rfl) (Nat.le_of_ble_eq_true rfl) dX0_init_23 (fun q_3 H hP hD hS => ?_)
  have hP : va_P D vwCl [(q0, .inr (0, [.int 0, .int 0, .int 0, .ref q_1, .ref q_2, .null, .null, .null, .null])), (q_1, .inl (cI, 40, .inl (fun _ => 0))), (q_2, .inl (cI, 40, .inl (fun _ => 0))), (q_3, .inl (cI, 40, .inl (fun _ => 0)))] H := hP
  have hD : va_D A [(q0, .inr (0, [.int 0, .int 0, .int 0, .ref q_1, .ref q_2, .null, .null, .null, .null])), (q_1, .inl (cI, 40, .inl (fun _ => 0))), (q_2, .inl (cI, 40, .inl (fun _ => 0))), (q_3, .inl (cI, 40, .inl (fun _ => 0)))] := hD
  refine W.widen (k := 3) (n := 120) (Nat.le_of_ble_eq_true rfl) (Nat.le_of_ble_eq_true rfl) ?_
  refine va_putF (D := D) (ci := 0) (v := .ref q_3) (ty := (.array .int)) (C := RX0) (T := TX0) (N := 9) hx hb hts hi_0 tyX0 tyX0_ok nmX0 hown hK hP hD hS 0 rfl rfl 5 (by decide) hf_18 (fun _ h9 => h9) rfl hin rfl (by decide +kernel) rfl rfl (Nat.le_of_ble_eq_true rfl) dX0_init_25 (fun H locs hP hD hS => ?_)
  have hP : va_P D vwCl [(q0, .inr (0, [.int 0, .int 0, .int 0, .ref q_1, .ref q_2, .ref q_3, .null, .null, .null])), (q_1, .inl (cI, 40, .inl (fun _ => 0))), (q_2, .inl (cI, 40, .inl (fun _ => 0))), (q_3, .inl (cI, 40, .inl (fun _ => 0)))] H := hP
  have hD : va_D A [(q0, .inr (0, [.int 0, .int 0, .int 0, .ref q_1, .ref q_2, .ref q_3, .null, .null, .null])), (q_1, .inl (cI, 40, .inl (fun _ => 0))), (q_2, .inl (cI, 40, .inl (fun _ => 0))), (q_3, .inl (cI, 40, .inl (fun _ => 0)))] := hD
  refine lv_aload_n hx hb dX0_init_28 rfl (lv_at hl 0 rfl) ?_
  refine lv_bipush (v := 49) hx hb dX0_init_29 (by decide) ?_
  refine goNJ hx hb harr_J hK hP hD hS hAg (n := 49) (N := 49) (by decide) (by decide) (by decide) (Nat.le_of_ble_eq_true rfl) (Nat.le_of_ble_eq_true rfl) dX0_init_31 (fun q_4 H hP hD hS => ?_)
  have hP : va_P D vwCl [(q0, .inr (0, [.int 0, .int 0, .int 0, .ref q_1, .ref q_2, .ref q_3, .null, .null, .null])), (q_1, .inl (cI, 40, .inl (fun _ => 0))), (q_2, .inl (cI, 40, .inl (fun _ => 0))), (q_3, .inl (cI, 40, .inl (fun _ => 0))), (q_4, .inl (cJ, 49, .inr (.inl (fun _ => 0))))] H := hP
  have hD : va_D A [(q0, .inr (0, [.int 0, .int 0, .int 0, .ref q_1, .ref q_2, .ref q_3, .null, .null, .null])), (q_1, .inl (cI, 40, .inl (fun _ => 0))), (q_2, .inl (cI, 40, .inl (fun _ => 0))), (q_3, .inl (cI, 40, .inl (fun _ => 0))), (q_4, .inl (cJ, 49, .inr (.inl (fun _ => 0))))] := hD
  refine W.widen (k := 4) (n := 169) (Nat.le_of_ble_eq_true rfl) (Nat.le_of_ble_eq_true rfl) ?_
  refine va_putF (D := D) (ci := 0) (v := .ref q_4) (ty := (.array .long)) (C := RX0) (T := TX0) (N := 9) hx hb hts hi_0 tyX0 tyX0_ok nmX0 hown hK hP hD hS 0 rfl rfl 6 (by decide) hf_21 (fun _ h9 => h9) rfl hin rfl (by decide +kernel) rfl rfl (Nat.le_of_ble_eq_true rfl) dX0_init_33 (fun H locs hP hD hS => ?_)
  have hP : va_P D vwCl [(q0, .inr (0, [.int 0, .int 0, .int 0, .ref q_1, .ref q_2, .ref q_3, .ref q_4, .null, .null])), (q_1, .inl (cI, 40, .inl (fun _ => 0))), (q_2, .inl (cI, 40, .inl (fun _ => 0))), (q_3, .inl (cI, 40, .inl (fun _ => 0))), (q_4, .inl (cJ, 49, .inr (.inl (fun _ => 0))))] H := hP
  have hD : va_D A [(q0, .inr (0, [.int 0, .int 0, .int 0, .ref q_1, .ref q_2, .ref q_3, .ref q_4, .null, .null])), (q_1, .inl (cI, 40, .inl (fun _ => 0))), (q_2, .inl (cI, 40, .inl (fun _ => 0))), (q_3, .inl (cI, 40, .inl (fun _ => 0))), (q_4, .inl (cJ, 49, .inr (.inl (fun _ => 0))))] := hD
  refine lv_aload_n hx hb dX0_init_36 rfl (lv_at hl 0 rfl) ?_
  refine lv_bipush (v := 49) hx hb dX0_init_37 (by decide) ?_
  refine goNJ hx hb harr_J hK hP hD hS hAg (n := 49) (N := 49) (by decide) (by decide) (by decide) (Nat.le_of_ble_eq_true rfl) (Nat.le_of_ble_eq_true rfl) dX0_init_39 (fun q_5 H hP hD hS => ?_)
  have hP : va_P D vwCl [(q0, .inr (0, [.int 0, .int 0, .int 0, .ref q_1, .ref q_2, .ref q_3, .ref q_4, .null, .null])), (q_1, .inl (cI, 40, .inl (fun _ => 0))), (q_2, .inl (cI, 40, .inl (fun _ => 0))), (q_3, .inl (cI, 40, .inl (fun _ => 0))), (q_4, .inl (cJ, 49, .inr (.inl (fun _ => 0)))), (q_5, .inl (cJ, 49, .inr (.inl (fun _ => 0))))] H := hP
  have hD : va_D A [(q0, .inr (0, [.int 0, .int 0, .int 0, .ref q_1, .ref q_2, .ref q_3, .ref q_4, .null, .null])), (q_1, .inl (cI, 40, .inl (fun _ => 0))), (q_2, .inl (cI, 40, .inl (fun _ => 0))), (q_3, .inl (cI, 40, .inl (fun _ => 0))), (q_4, .inl (cJ, 49, .inr (.inl (fun _ => 0)))), (q_5, .inl (cJ, 49, .inr (.inl (fun _ => 0))))] := hD
  refine W.widen (k := 5) (n := 218) (Nat.le_of_ble_eq_true rfl) (Nat.le_of_ble_eq_true rfl) ?_
  refine va_putF (D := D) (ci := 0) (v := .ref q_5) (ty := (.array .long)) (C := RX0) (T := TX0) (N := 9) hx hb hts hi_0 tyX0 tyX0_ok nmX0 hown hK hP hD hS 0 rfl rfl 7 (by decide) hf_25 (fun _ h9 => h9) rfl hin rfl (by decide +kernel) rfl rfl (Nat.le_of_ble_eq_true rfl) dX0_init_41 (fun H locs hP hD hS => ?_)
  have hP : va_P D vwCl [(q0, .inr (0, [.int 0, .int 0, .int 0, .ref q_1, .ref q_2, .ref q_3, .ref q_4, .ref q_5, .null])), (q_1, .inl (cI, 40, .inl (fun _ => 0))), (q_2, .inl (cI, 40, .inl (fun _ => 0))), (q_3, .inl (cI, 40, .inl (fun _ => 0))), (q_4, .inl (cJ, 49, .inr (.inl (fun _ => 0)))), (q_5, .inl (cJ, 49, .inr (.inl (fun _ => 0))))] H := hP
  have hD : va_D A [(q0, .inr (0, [.int 0, .int 0, .int 0, .ref q_1, .ref q_2, .ref q_3, .ref q_4, .ref q_5, .null])), (q_1, .inl (cI, 40, .inl (fun _ => 0))), (q_2, .inl (cI, 40, .inl (fun _ => 0))), (q_3, .inl (cI, 40, .inl (fun _ => 0))), (q_4, .inl (cJ, 49, .inr (.inl (fun _ => 0)))), (q_5, .inl (cJ, 49, .inr (.inl (fun _ => 0))))] := hD
  refine lv_aload_n hx hb dX0_init_44 rfl (lv_at hl 0 rfl) ?_
  refine lv_bipush (v := 49) hx hb dX0_init_45 (by decide) ?_
  refine goNJ hx hb harr_J hK hP hD hS hAg (n := 49) (N := 49) (by decide) (by decide) (by decide) (Nat.le_of_ble_eq_true rfl) (Nat.le_of_ble_eq_true rfl) dX0_init_47 (fun q_6 H hP hD hS => ?_)
  have hP : va_P D vwCl [(q0, .inr (0, [.int 0, .int 0, .int 0, .ref q_1, .ref q_2, .ref q_3, .ref q_4, .ref q_5, .null])), (q_1, .inl (cI, 40, .inl (fun _ => 0))), (q_2, .inl (cI, 40, .inl (fun _ => 0))), (q_3, .inl (cI, 40, .inl (fun _ => 0))), (q_4, .inl (cJ, 49, .inr (.inl (fun _ => 0)))), (q_5, .inl (cJ, 49, .inr (.inl (fun _ => 0)))), (q_6, .inl (cJ, 49, .inr (.inl (fun _ => 0))))] H := hP
  have hD : va_D A [(q0, .inr (0, [.int 0, .int 0, .int 0, .ref q_1, .ref q_2, .ref q_3, .ref q_4, .ref q_5, .null])), (q_1, .inl (cI, 40, .inl (fun _ => 0))), (q_2, .inl (cI, 40, .inl (fun _ => 0))), (q_3, .inl (cI, 40, .inl (fun _ => 0))), (q_4, .inl (cJ, 49, .inr (.inl (fun _ => 0)))), (q_5, .inl (cJ, 49, .inr (.inl (fun _ => 0)))), (q_6, .inl (cJ, 49, .inr (.inl (fun _ => 0))))] := hD
  refine W.widen (k := 6) (n := 267) (Nat.le_of_ble_eq_true rfl) (Nat.le_of_ble_eq_true rfl) ?_
  refine va_putF (D := D) (ci := 0) (v := .ref q_6) (ty := (.array .long)) (C := RX0) (T := TX0) (N := 9) hx hb hts hi_0 tyX0 tyX0_ok nmX0 hown hK hP hD hS 0 rfl rfl 8 (by decide) hf_28 (fun _ h9 => h9) rfl hin rfl (by decide +kernel) rfl rfl (Nat.le_of_ble_eq_true rfl) dX0_init_49 (fun H locs hP hD hS => ?_)
  have hP : va_P D vwCl [(q0, .inr (0, [.int 0, .int 0, .int 0, .ref q_1, .ref q_2, .ref q_3, .ref q_4, .ref q_5, .ref q_6])), (q_1, .inl (cI, 40, .inl (fun _ => 0))), (q_2, .inl (cI, 40, .inl (fun _ => 0))), (q_3, .inl (cI, 40, .inl (fun _ => 0))), (q_4, .inl (cJ, 49, .inr (.inl (fun _ => 0)))), (q_5, .inl (cJ, 49, .inr (.inl (fun _ => 0)))), (q_6, .inl (cJ, 49, .inr (.inl (fun _ => 0))))] H := hP
  have hD : va_D A [(q0, .inr (0, [.int 0, .int 0, .int 0, .ref q_1, .ref q_2, .ref q_3, .ref q_4, .ref q_5, .ref q_6])), (q_1, .inl (cI, 40, .inl (fun _ => 0))), (q_2, .inl (cI, 40, .inl (fun _ => 0))), (q_3, .inl (cI, 40, .inl (fun _ => 0))), (q_4, .inl (cJ, 49, .inr (.inl (fun _ => 0)))), (q_5, .inl (cJ, 49, .inr (.inl (fun _ => 0)))), (q_6, .inl (cJ, 49, .inr (.inl (fun _ => 0))))] := hD
  exact endC ⟨q_1, q_2, q_3, q_4, q_5, q_6⟩ hx hb hr hlocks hA hQ hS hP hD dX0_init_52 rfl
def rmX1_init : Room := { frames := 1, cells := 1, slots := 12, locals := 40 }
theorem kdX1_init : yX1_init.cls = RX1 ∧ yX1_init.cls ≠ "java/lang/invoke/MethodHandle" ∧ yX1_init.cls ≠ "java/lang/invoke/VarHandle" ∧ (parseMethodDescriptor yX1_init.desc).map (fun d => d.parameters.length) = some 0 := ⟨rfl, by decide +kernel, by decide +kernel, by decide +kernel⟩
set_option maxRecDepth 100000 in
set_option maxHeartbeats 1000000 in
theorem kX1_init (l : Launch) (D : va_G) (cI cJ : ClassId) (q0 : Nat) (sz : Nat) : Met l yX1_init wsX1_init rmX1_init (cPre D cI cJ [.ref q0] [(q0, .inr (1, [.null, .int 0, .int 0, .int 0, .int 0]))] sz) (cQ D (fun (u : Nat) => [(q0, .inr (1, [.ref u, .int 0, .int 0, .int 0, .int 0])), (u, .inl (cI, 12, .inl (fun _ => 0)))]) [(q0, .inr (1, [.null, .int 0, .int 0, .int 0, .int 0]))] sz) 1 12 (va_A [(q0, .inr (1, [.null, .int 0, .int 0, .int 0, .int 0]))] sz) := by
  refine startC (cc := cX1_init) (maxL := 1) (ret := none) (by decide) rfl (Nat.le_of_ble_eq_true rfl) ?_
  intro p e s m args below meth c ls Q A hA hAg hQ hx hb hr hlocks hml hown hts hK hN hP hD hl hin
  have hin : meth.name = "<init>" := hin rfl
  have hown : s.vm.findClass RX1 = some m.cls := hown
  have hi_1 : ∀ w ∈ wsX10, w ∈ wsX1_init := by decide +kernel
  have hf_9 := hts (.fieldLink RX1 9 "FireNets$Chances" "ends" "[I") (by decide +kernel)
  have hoi_3 := hts (.methodLink RX1 3 objectInit) (by decide +kernel)
  have hoi_i := hts (.instanceMethod objectInit) (by decide +kernel)
  have hoi_c := hts (.code objectInit ⟨#[0xb1]⟩ 1 none) (by decide +kernel)
  have harr_I := hts (.arrayClass .int) (by decide +kernel)
  have hS : va_S A s.heap s.heap [] := va_S.rf
  have hl : lv_has ls 1 [(0, .ref q0)] := hl
  have hP : va_P D vwCl [(q0, .inr (1, [.null, .int 0, .int 0, .int 0, .int 0]))] s.heap := hP
  refine lv_aload_n hx hb dX1_init_0 rfl (lv_at hl 0 rfl) ?_
  refine W.objInit hx hb hown hoi_3 hoi_i hoi_c rfl (by rw [hml]; exact hl.1) rfl dX1_init_1 (Nat.le_of_ble_eq_true rfl) (Nat.le_of_ble_eq_true rfl) ?_
  refine W.eq (g2 := F0 m 4 ls []) rfl ?_
  refine lv_aload_n hx hb dX1_init_4 rfl (lv_at hl 0 rfl) ?_
  refine lv_bipush (v := 12) hx hb dX1_init_5 (by decide) ?_
  refine goNI hx hb harr_I hK hP hD hS hAg (n := 12) (N := 12) (by decide) (by decide) (by decide) (Nat.le_of_ble_eq_true rfl) (Nat.le_of_ble_eq_true rfl) dX1_init_7 (fun q_1 H hP hD hS => ?_)
  have hP : va_P D vwCl [(q0, .inr (1, [.null, .int 0, .int 0, .int 0, .int 0])), (q_1, .inl (cI, 12, .inl (fun _ => 0)))] H := hP
  have hD : va_D A [(q0, .inr (1, [.null, .int 0, .int 0, .int 0, .int 0])), (q_1, .inl (cI, 12, .inl (fun _ => 0)))] := hD
  refine W.widen (k := 1) (n := 12) (Nat.le_of_ble_eq_true rfl) (Nat.le_of_ble_eq_true rfl) ?_
  refine va_putF (D := D) (ci := 1) (v := .ref q_1) (ty := (.array .int)) (C := RX1) (T := TX1) (N := 5) hx hb hts hi_1 tyX1 tyX1_ok nmX1 hown hK hP hD hS 0 rfl rfl 0 (by decide) hf_9 (fun _ h9 => h9) rfl hin rfl (by decide +kernel) rfl rfl (Nat.le_of_ble_eq_true rfl) dX1_init_9 (fun H locs hP hD hS => ?_)
  have hP : va_P D vwCl [(q0, .inr (1, [.ref q_1, .int 0, .int 0, .int 0, .int 0])), (q_1, .inl (cI, 12, .inl (fun _ => 0)))] H := hP
  have hD : va_D A [(q0, .inr (1, [.ref q_1, .int 0, .int 0, .int 0, .int 0])), (q_1, .inl (cI, 12, .inl (fun _ => 0)))] := hD
  exact endC q_1 hx hb hr hlocks hA hQ hS hP hD dX1_init_12 rfl
def rmX2_init : Room := { frames := 1, cells := 0, slots := 0, locals := 40 }
theorem kdX2_init : yX2_init.cls = RX2 ∧ yX2_init.cls ≠ "java/lang/invoke/MethodHandle" ∧ yX2_init.cls ≠ "java/lang/invoke/VarHandle" ∧ (parseMethodDescriptor yX2_init.desc).map (fun d => d.parameters.length) = some 0 := ⟨rfl, by decide +kernel, by decide +kernel, by decide +kernel⟩
set_option maxRecDepth 100000 in
set_option maxHeartbeats 1000000 in
theorem kX2_init (l : Launch) (D : va_G) (cI cJ : ClassId) (q0 : Nat) (sz : Nat) : Met l yX2_init wsX2_init rmX2_init (cPre D cI cJ [.ref q0] [(q0, .inr (2, [.int 0, .int 0, .int 0, .int 0, .int 0, .int 0, .int 0]))] sz) (cQ D (fun (u : Unit) => [(q0, .inr (2, [.int 0, .int 0, .int 0, .int 0, .int 0, .int 0, .int 0]))]) [(q0, .inr (2, [.int 0, .int 0, .int 0, .int 0, .int 0, .int 0, .int 0]))] sz) 0 0 (va_A [(q0, .inr (2, [.int 0, .int 0, .int 0, .int 0, .int 0, .int 0, .int 0]))] sz) := by
  refine startC (cc := cX2_init) (maxL := 1) (ret := none) (by decide) rfl (Nat.le_of_ble_eq_true rfl) ?_
  intro p e s m args below meth c ls Q A hA hAg hQ hx hb hr hlocks hml hown hts hK hN hP hD hl hin
  have hin : meth.name = "<init>" := hin rfl
  have hown : s.vm.findClass RX2 = some m.cls := hown
  have hoi_3 := hts (.methodLink RX2 3 objectInit) (by decide +kernel)
  have hoi_i := hts (.instanceMethod objectInit) (by decide +kernel)
  have hoi_c := hts (.code objectInit ⟨#[0xb1]⟩ 1 none) (by decide +kernel)
  have hS : va_S A s.heap s.heap [] := va_S.rf
  have hl : lv_has ls 1 [(0, .ref q0)] := hl
  have hP : va_P D vwCl [(q0, .inr (2, [.int 0, .int 0, .int 0, .int 0, .int 0, .int 0, .int 0]))] s.heap := hP
  refine lv_aload_n hx hb dX2_init_0 rfl (lv_at hl 0 rfl) ?_
  refine W.objInit hx hb hown hoi_3 hoi_i hoi_c rfl (by rw [hml]; exact hl.1) rfl dX2_init_1 (Nat.le_of_ble_eq_true rfl) (Nat.le_of_ble_eq_true rfl) ?_
  refine W.eq (g2 := F0 m 4 ls []) rfl ?_
  exact endC () hx hb hr hlocks hA hQ hS hP hD dX2_init_4 rfl
def rmX3_init : Room := { frames := 2, cells := 4, slots := 54, locals := 44 }
theorem kdX3_init : yX3_init.cls = RX3 ∧ yX3_init.cls ≠ "java/lang/invoke/MethodHandle" ∧ yX3_init.cls ≠ "java/lang/invoke/VarHandle" ∧ (parseMethodDescriptor yX3_init.desc).map (fun d => d.parameters.length) = some 0 := ⟨rfl, by decide +kernel, by decide +kernel, by decide +kernel⟩
set_option maxRecDepth 100000 in
set_option maxHeartbeats 1000000 in
theorem kX3_init (l : Launch) (D : va_G) (cI cJ : ClassId) (q0 : Nat) (sz : Nat) : Met l yX3_init wsX3_init rmX3_init (cPre D cI cJ [.ref q0] [(q0, .inr (3, [.int 0, .int 0, .null, .null, .null, .null]))] sz) (cQ D (fun (u : Nat × Nat × Nat × Nat) => [(q0, .inr (3, [.int (nI 1), .int (nI 0), .ref u.1, .ref u.2.1, .ref u.2.2.1, .ref u.2.2.2])), (u.1, .inl (cI, 10, .inl (fillF (fun _ => 0) 1 10))), (u.2.1, .inl (cI, 10, .inl (fillF (fun _ => 0) 1 10))), (u.2.2.1, .inl (cI, 10, .inl (fillF (fun _ => 0) 0 10))), (u.2.2.2, .inl (cI, 24, .inl (fun _ => 0)))]) [(q0, .inr (3, [.int 0, .int 0, .null, .null, .null, .null]))] sz) 4 54 (va_A [(q0, .inr (3, [.int 0, .int 0, .null, .null, .null, .null]))] sz) := by
  refine startC (cc := cX3_init) (maxL := 1) (ret := none) (by decide) rfl (Nat.le_of_ble_eq_true rfl) ?_
  intro p e s m args below meth c ls Q A hA hAg hQ hx hb hr hlocks hml hown hts hK hN hP hD hl hin
  have hin : meth.name = "<init>" := hin rfl
  have hown : s.vm.findClass RX3 = some m.cls := hown
  have hi_3 : ∀ w ∈ wsX30, w ∈ wsX3_init := by decide +kernel
  have hf_9 := hts (.fieldLink RX3 9 "FireNets$Net" "worth" "[I") (by decide +kernel)
  have hf_15 := hts (.fieldLink RX3 15 "FireNets$Net" "price" "[I") (by decide +kernel)
  have hf_18 := hts (.fieldLink RX3 18 "FireNets$Net" "near" "[I") (by decide +kernel)
  have hf_21 := hts (.fieldLink RX3 21 "FireNets$Net" "ends" "[I") (by decide +kernel)
  have hoi_3 := hts (.methodLink RX3 3 objectInit) (by decide +kernel)
  have hoi_i := hts (.instanceMethod objectInit) (by decide +kernel)
  have hoi_c := hts (.code objectInit ⟨#[0xb1]⟩ 1 none) (by decide +kernel)
  have harr_I := hts (.arrayClass .int) (by decide +kernel)
  have hS : va_S A s.heap s.heap [] := va_S.rf
  have hl : lv_has ls 1 [(0, .ref q0)] := hl
  have hP : va_P D vwCl [(q0, .inr (3, [.int 0, .int 0, .null, .null, .null, .null]))] s.heap := hP
  refine lv_aload_n hx hb dX3_init_0 rfl (lv_at hl 0 rfl) ?_
  refine W.objInit hx hb hown hoi_3 hoi_i hoi_c rfl (by rw [hml]; exact hl.1) rfl dX3_init_1 (Nat.le_of_ble_eq_true rfl) (Nat.le_of_ble_eq_true rfl) ?_
  refine W.eq (g2 := F0 m 4 ls []) rfl ?_
  refine lv_aload_n hx hb dX3_init_4 rfl (lv_at hl 0 rfl) ?_
  refine lv_bipush (v := 10) hx hb dX3_init_5 (by decide) ?_
  refine goNI hx hb harr_I hK hP hD hS hAg (n := 10) (N := 10) (by decide) (by decide) (by decide) (Nat.le_of_ble_eq_true rfl) (Nat.le_of_ble_eq_true rfl) dX3_init_7 (fun q_1 H hP hD hS => ?_)
  have hP : va_P D vwCl [(q0, .inr (3, [.int 0, .int 0, .null, .null, .null, .null])), (q_1, .inl (cI, 10, .inl (fun _ => 0)))] H := hP
  have hD : va_D A [(q0, .inr (3, [.int 0, .int 0, .null, .null, .null, .null])), (q_1, .inl (cI, 10, .inl (fun _ => 0)))] := hD
  refine W.widen (k := 1) (n := 10) (Nat.le_of_ble_eq_true rfl) (Nat.le_of_ble_eq_true rfl) ?_
  refine va_putF (D := D) (ci := 3) (v := .ref q_1) (ty := (.array .int)) (C := RX3) (T := TX3) (N := 6) hx hb hts hi_3 tyX3 tyX3_ok nmX3 hown hK hP hD hS 0 rfl rfl 2 (by decide) hf_9 (fun _ h9 => h9) rfl hin rfl (by decide +kernel) rfl rfl (Nat.le_of_ble_eq_true rfl) dX3_init_9 (fun H locs hP hD hS => ?_)
  have hP : va_P D vwCl [(q0, .inr (3, [.int 0, .int 0, .ref q_1, .null, .null, .null])), (q_1, .inl (cI, 10, .inl (fun _ => 0)))] H := hP
  have hD : va_D A [(q0, .inr (3, [.int 0, .int 0, .ref q_1, .null, .null, .null])), (q_1, .inl (cI, 10, .inl (fun _ => 0)))] := hD
  refine lv_aload_n hx hb dX3_init_12 rfl (lv_at hl 0 rfl) ?_
  refine lv_bipush (v := 10) hx hb dX3_init_13 (by decide) ?_
  refine goNI hx hb harr_I hK hP hD hS hAg (n := 10) (N := 10) (by decide) (by decide) (by decide) (Nat.le_of_ble_eq_true rfl) (Nat.le_of_ble_eq_true rfl) dX3_init_15 (fun q_2 H hP hD hS => ?_)
  have hP : va_P D vwCl [(q0, .inr (3, [.int 0, .int 0, .ref q_1, .null, .null, .null])), (q_1, .inl (cI, 10, .inl (fun _ => 0))), (q_2, .inl (cI, 10, .inl (fun _ => 0)))] H := hP
  have hD : va_D A [(q0, .inr (3, [.int 0, .int 0, .ref q_1, .null, .null, .null])), (q_1, .inl (cI, 10, .inl (fun _ => 0))), (q_2, .inl (cI, 10, .inl (fun _ => 0)))] := hD
  refine W.widen (k := 2) (n := 20) (Nat.le_of_ble_eq_true rfl) (Nat.le_of_ble_eq_true rfl) ?_
  refine va_putF (D := D) (ci := 3) (v := .ref q_2) (ty := (.array .int)) (C := RX3) (T := TX3) (N := 6) hx hb hts hi_3 tyX3 tyX3_ok nmX3 hown hK hP hD hS 0 rfl rfl 3 (by decide) hf_15 (fun _ h9 => h9) rfl hin rfl (by decide +kernel) rfl rfl (Nat.le_of_ble_eq_true rfl) dX3_init_17 (fun H locs hP hD hS => ?_)
  have hP : va_P D vwCl [(q0, .inr (3, [.int 0, .int 0, .ref q_1, .ref q_2, .null, .null])), (q_1, .inl (cI, 10, .inl (fun _ => 0))), (q_2, .inl (cI, 10, .inl (fun _ => 0)))] H := hP
  have hD : va_D A [(q0, .inr (3, [.int 0, .int 0, .ref q_1, .ref q_2, .null, .null])), (q_1, .inl (cI, 10, .inl (fun _ => 0))), (q_2, .inl (cI, 10, .inl (fun _ => 0)))] := hD
  refine lv_aload_n hx hb dX3_init_20 rfl (lv_at hl 0 rfl) ?_
  refine lv_bipush (v := 10) hx hb dX3_init_21 (by decide) ?_
  refine goNI hx hb harr_I hK hP hD hS hAg (n := 10) (N := 10) (by decide) (by decide) (by decide) (Nat.le_of_ble_eq_true rfl) (Nat.le_of_ble_eq_true rfl) dX3_init_23 (fun q_3 H hP hD hS => ?_)
  have hP : va_P D vwCl [(q0, .inr (3, [.int 0, .int 0, .ref q_1, .ref q_2, .null, .null])), (q_1, .inl (cI, 10, .inl (fun _ => 0))), (q_2, .inl (cI, 10, .inl (fun _ => 0))), (q_3, .inl (cI, 10, .inl (fun _ => 0)))] H := hP
  have hD : va_D A [(q0, .inr (3, [.int 0, .int 0, .ref q_1, .ref q_2, .null, .null])), (q_1, .inl (cI, 10, .inl (fun _ => 0))), (q_2, .inl (cI, 10, .inl (fun _ => 0))), (q_3, .inl (cI, 10, .inl (fun _ => 0)))] := hD
  refine W.widen (k := 3) (n := 30) (Nat.le_of_ble_eq_true rfl) (Nat.le_of_ble_eq_true rfl) ?_
  refine va_putF (D := D) (ci := 3) (v := .ref q_3) (ty := (.array .int)) (C := RX3) (T := TX3) (N := 6) hx hb hts hi_3 tyX3 tyX3_ok nmX3 hown hK hP hD hS 0 rfl rfl 4 (by decide) hf_18 (fun _ h9 => h9) rfl hin rfl (by decide +kernel) rfl rfl (Nat.le_of_ble_eq_true rfl) dX3_init_25 (fun H locs hP hD hS => ?_)
  have hP : va_P D vwCl [(q0, .inr (3, [.int 0, .int 0, .ref q_1, .ref q_2, .ref q_3, .null])), (q_1, .inl (cI, 10, .inl (fun _ => 0))), (q_2, .inl (cI, 10, .inl (fun _ => 0))), (q_3, .inl (cI, 10, .inl (fun _ => 0)))] H := hP
  have hD : va_D A [(q0, .inr (3, [.int 0, .int 0, .ref q_1, .ref q_2, .ref q_3, .null])), (q_1, .inl (cI, 10, .inl (fun _ => 0))), (q_2, .inl (cI, 10, .inl (fun _ => 0))), (q_3, .inl (cI, 10, .inl (fun _ => 0)))] := hD
  refine lv_aload_n hx hb dX3_init_28 rfl (lv_at hl 0 rfl) ?_
  refine lv_bipush (v := 24) hx hb dX3_init_29 (by decide) ?_
  refine goNI hx hb harr_I hK hP hD hS hAg (n := 24) (N := 24) (by decide) (by decide) (by decide) (Nat.le_of_ble_eq_true rfl) (Nat.le_of_ble_eq_true rfl) dX3_init_31 (fun q_4 H hP hD hS => ?_)
  have hP : va_P D vwCl [(q0, .inr (3, [.int 0, .int 0, .ref q_1, .ref q_2, .ref q_3, .null])), (q_1, .inl (cI, 10, .inl (fun _ => 0))), (q_2, .inl (cI, 10, .inl (fun _ => 0))), (q_3, .inl (cI, 10, .inl (fun _ => 0))), (q_4, .inl (cI, 24, .inl (fun _ => 0)))] H := hP
  have hD : va_D A [(q0, .inr (3, [.int 0, .int 0, .ref q_1, .ref q_2, .ref q_3, .null])), (q_1, .inl (cI, 10, .inl (fun _ => 0))), (q_2, .inl (cI, 10, .inl (fun _ => 0))), (q_3, .inl (cI, 10, .inl (fun _ => 0))), (q_4, .inl (cI, 24, .inl (fun _ => 0)))] := hD
  refine W.widen (k := 4) (n := 54) (Nat.le_of_ble_eq_true rfl) (Nat.le_of_ble_eq_true rfl) ?_
  refine va_putF (D := D) (ci := 3) (v := .ref q_4) (ty := (.array .int)) (C := RX3) (T := TX3) (N := 6) hx hb hts hi_3 tyX3 tyX3_ok nmX3 hown hK hP hD hS 0 rfl rfl 5 (by decide) hf_21 (fun _ h9 => h9) rfl hin rfl (by decide +kernel) rfl rfl (Nat.le_of_ble_eq_true rfl) dX3_init_33 (fun H locs hP hD hS => ?_)
  have hP : va_P D vwCl [(q0, .inr (3, [.int 0, .int 0, .ref q_1, .ref q_2, .ref q_3, .ref q_4])), (q_1, .inl (cI, 10, .inl (fun _ => 0))), (q_2, .inl (cI, 10, .inl (fun _ => 0))), (q_3, .inl (cI, 10, .inl (fun _ => 0))), (q_4, .inl (cI, 24, .inl (fun _ => 0)))] H := hP
  have hD : va_D A [(q0, .inr (3, [.int 0, .int 0, .ref q_1, .ref q_2, .ref q_3, .ref q_4])), (q_1, .inl (cI, 10, .inl (fun _ => 0))), (q_2, .inl (cI, 10, .inl (fun _ => 0))), (q_3, .inl (cI, 10, .inl (fun _ => 0))), (q_4, .inl (cI, 24, .inl (fun _ => 0)))] := hD
  refine lv_aload_n hx hb dX3_init_36 rfl (lv_at hl 0 rfl) ?_
  refine lv_iconst (v := 1) hx hb dX3_init_37 (by decide) ?_
  refine goMV hP hD hS (va_runV (As := [.int 1]) (rest := []) ⟨hx, hb, hml, hown, hts⟩ (kX3_renew l D cI cJ q0 0 0 q_1 q_2 q_3 q_4 (fun _ => 0) (fun _ => 0) (fun _ => 0) 1) (cwV 1 hts gX3_init_X3_renew rfl rfl rfl kdX3_renew ⟨Nat.le_of_ble_eq_true rfl, Nat.le_of_ble_eq_true rfl⟩) (preMV hK hN hP hD 0 (ci := 3) rfl rfl rfl [0, 1, 2, 3] rfl (by decide)) rfl rfl hl.1 rfl (lv_room (Nat.le_of_ble_eq_true rfl)) dX3_init_38 ⟨Nat.le_of_ble_eq_true rfl, Nat.le_of_ble_eq_true rfl⟩) [0, 1, 2, 3] rfl (by decide) (fun _ => (show ([q0, q_1, q_2, q_3] : List Nat) = [q0, q_1, q_2, q_3] from rfl)) (fun _ H locs hp_38 hP hD hS => ?_)
  have hP : va_P D vwCl [(q0, .inr (3, [.int (nI 1), .int (nI 0), .ref q_1, .ref q_2, .ref q_3, .ref q_4])), (q_1, .inl (cI, 10, .inl (fillF (fun _ => 0) 1 10))), (q_2, .inl (cI, 10, .inl (fillF (fun _ => 0) 1 10))), (q_3, .inl (cI, 10, .inl (fillF (fun _ => 0) 0 10))), (q_4, .inl (cI, 24, .inl (fun _ => 0)))] H := hP
  have hD : va_D A [(q0, .inr (3, [.int (nI 1), .int (nI 0), .ref q_1, .ref q_2, .ref q_3, .ref q_4])), (q_1, .inl (cI, 10, .inl (fillF (fun _ => 0) 1 10))), (q_2, .inl (cI, 10, .inl (fillF (fun _ => 0) 1 10))), (q_3, .inl (cI, 10, .inl (fillF (fun _ => 0) 0 10))), (q_4, .inl (cI, 24, .inl (fun _ => 0)))] := hD
  exact endC ⟨q_1, q_2, q_3, q_4⟩ hx hb hr hlocks hA hQ hS hP hD dX3_init_41 rfl
def rmX4_init : Room := { frames := 1, cells := 1, slots := 8, locals := 40 }
theorem kdX4_init : yX4_init.cls = RX4 ∧ yX4_init.cls ≠ "java/lang/invoke/MethodHandle" ∧ yX4_init.cls ≠ "java/lang/invoke/VarHandle" ∧ (parseMethodDescriptor yX4_init.desc).map (fun d => d.parameters.length) = some 0 := ⟨rfl, by decide +kernel, by decide +kernel, by decide +kernel⟩
set_option maxRecDepth 100000 in
set_option maxHeartbeats 1000000 in
theorem kX4_init (l : Launch) (D : va_G) (cI cJ : ClassId) (q0 : Nat) (sz : Nat) : Met l yX4_init wsX4_init rmX4_init (cPre D cI cJ [.ref q0] [(q0, .inr (4, [.null, .int 0]))] sz) (cQ D (fun (u : Nat) => [(q0, .inr (4, [.ref u, .int 0])), (u, .inl (cI, 8, .inl (fillF (fun _ => 0) 1 8)))]) [(q0, .inr (4, [.null, .int 0]))] sz) 1 8 (va_A [(q0, .inr (4, [.null, .int 0]))] sz) := by
  refine startC (cc := cX4_init) (maxL := 1) (ret := none) (by decide) rfl (Nat.le_of_ble_eq_true rfl) ?_
  intro p e s m args below meth c ls Q A hA hAg hQ hx hb hr hlocks hml hown hts hK hN hP hD hl hin
  have hin : meth.name = "<init>" := hin rfl
  have hown : s.vm.findClass RX4 = some m.cls := hown
  have hi_4 : ∀ w ∈ wsX40, w ∈ wsX4_init := by decide +kernel
  have hf_9 := hts (.fieldLink RX4 9 "FireNets$Purses" "own" "[I") (by decide +kernel)
  have hoi_3 := hts (.methodLink RX4 3 objectInit) (by decide +kernel)
  have hoi_i := hts (.instanceMethod objectInit) (by decide +kernel)
  have hoi_c := hts (.code objectInit ⟨#[0xb1]⟩ 1 none) (by decide +kernel)
  have harr_I := hts (.arrayClass .int) (by decide +kernel)
  have hS : va_S A s.heap s.heap [] := va_S.rf
  have hl : lv_has ls 1 [(0, .ref q0)] := hl
  have hP : va_P D vwCl [(q0, .inr (4, [.null, .int 0]))] s.heap := hP
  refine lv_aload_n hx hb dX4_init_0 rfl (lv_at hl 0 rfl) ?_
  refine W.objInit hx hb hown hoi_3 hoi_i hoi_c rfl (by rw [hml]; exact hl.1) rfl dX4_init_1 (Nat.le_of_ble_eq_true rfl) (Nat.le_of_ble_eq_true rfl) ?_
  refine W.eq (g2 := F0 m 4 ls []) rfl ?_
  refine lv_aload_n hx hb dX4_init_4 rfl (lv_at hl 0 rfl) ?_
  refine lv_bipush (v := 8) hx hb dX4_init_5 (by decide) ?_
  refine goNI hx hb harr_I hK hP hD hS hAg (n := 8) (N := 8) (by decide) (by decide) (by decide) (Nat.le_of_ble_eq_true rfl) (Nat.le_of_ble_eq_true rfl) dX4_init_7 (fun q_1 H hP hD hS => ?_)
  have hP : va_P D vwCl [(q0, .inr (4, [.null, .int 0])), (q_1, .inl (cI, 8, .inl (fun _ => 0)))] H := hP
  have hD : va_D A [(q0, .inr (4, [.null, .int 0])), (q_1, .inl (cI, 8, .inl (fun _ => 0)))] := hD
  refine W.widen (k := 1) (n := 8) (Nat.le_of_ble_eq_true rfl) (Nat.le_of_ble_eq_true rfl) ?_
  refine va_putF (D := D) (ci := 4) (v := .ref q_1) (ty := (.array .int)) (C := RX4) (T := TX4) (N := 2) hx hb hts hi_4 tyX4 tyX4_ok nmX4 hown hK hP hD hS 0 rfl rfl 0 (by decide) hf_9 (fun _ h9 => h9) rfl hin rfl (by decide +kernel) rfl rfl (Nat.le_of_ble_eq_true rfl) dX4_init_9 (fun H locs hP hD hS => ?_)
  have hP : va_P D vwCl [(q0, .inr (4, [.ref q_1, .int 0])), (q_1, .inl (cI, 8, .inl (fun _ => 0)))] H := hP
  have hD : va_D A [(q0, .inr (4, [.ref q_1, .int 0])), (q_1, .inl (cI, 8, .inl (fun _ => 0)))] := hD
  refine lv_aload_n hx hb dX4_init_12 rfl (lv_at hl 0 rfl) ?_
  refine va_get (D := D) (ci := 4) (v := .ref q_1) (C := RX4) (T := TX4) (N := 2) hx hb hts hi_4 hown hK hP 0 rfl rfl 0 (by decide) hf_9 (fun _ h9 => h9) rfl dX4_init_13 ?_
  refine lv_iconst (v := 1) hx hb dX4_init_16 (by decide) ?_
  refine goMV hP hD hS (va_runS (As := [.ref q_1, .int 1]) (rest := []) ⟨hx, hb, hml, hown, hts⟩ (kJ7_fill_53178 l D cI cJ q_1 8 (fun _ => 0) 1 (by omega)) (va_cwS 2 hts gX4_init_J7_fill_53178 rfl rfl rfl kdJ7_fill_53178.2 ⟨Nat.le_of_ble_eq_true rfl, Nat.le_of_ble_eq_true rfl⟩) (preM hK hN hP hD [1] rfl (by decide)) rfl rfl hl.1 rfl (lv_room (Nat.le_of_ble_eq_true rfl)) dX4_init_17 ⟨Nat.le_of_ble_eq_true rfl, Nat.le_of_ble_eq_true rfl⟩) [1] rfl (by decide) (fun _ => (show ([q_1] : List Nat) = [q_1] from rfl)) (fun _ H locs hp_17 hP hD hS => ?_)
  have hP : va_P D vwCl [(q0, .inr (4, [.ref q_1, .int 0])), (q_1, .inl (cI, 8, .inl (fillF (fun _ => 0) 1 8)))] H := hP
  have hD : va_D A [(q0, .inr (4, [.ref q_1, .int 0])), (q_1, .inl (cI, 8, .inl (fillF (fun _ => 0) 1 8)))] := hD
  exact endC q_1 hx hb hr hlocks hA hQ hS hP hD dX4_init_20 rfl
def rmX5_init : Room := { frames := 2, cells := 4, slots := 26, locals := 60 }
theorem kdX5_init : yX5_init.cls = RX5 ∧ yX5_init.cls ≠ "java/lang/invoke/MethodHandle" ∧ yX5_init.cls ≠ "java/lang/invoke/VarHandle" ∧ (parseMethodDescriptor yX5_init.desc).map (fun d => d.parameters.length) = some 0 := ⟨rfl, by decide +kernel, by decide +kernel, by decide +kernel⟩
set_option maxRecDepth 100000 in
set_option maxHeartbeats 1000000 in
theorem kX5_init (l : Launch) (D : va_G) (cI cJ : ClassId) (q0 : Nat) (sz : Nat) : Met l yX5_init wsX5_init rmX5_init (cPre D cI cJ [.ref q0] [(q0, .inr (5, [.null, .int 0, .int 0, .int 0, .int 0, .int 0, .null, .null]))] sz) (cQ D (fun (u : Nat × Nat × Nat × Nat) => [(q0, .inr (5, [.ref u.1, .int 0, .int 0, .int 0, .int 0, .int 0, .ref u.2.2.1, .ref u.2.2.2])), (u.1, .inr (4, [.ref u.2.1, .int 0])), (u.2.1, .inl (cI, 8, .inl (fillF (fun _ => 0) 1 8))), (u.2.2.1, .inl (cI, 8, .inl (fun _ => 0))), (u.2.2.2, .inl (cI, 8, .inl (fun _ => 0)))]) [(q0, .inr (5, [.null, .int 0, .int 0, .int 0, .int 0, .int 0, .null, .null]))] sz) 4 26 (va_A [(q0, .inr (5, [.null, .int 0, .int 0, .int 0, .int 0, .int 0, .null, .null]))] sz) := by
  refine startC (cc := cX5_init) (maxL := 1) (ret := none) (by decide) rfl (Nat.le_of_ble_eq_true rfl) ?_
  intro p e s m args below meth c ls Q A hA hAg hQ hx hb hr hlocks hml hown hts hK hN hP hD hl hin
  have hin : meth.name = "<init>" := hin rfl
  have hown : s.vm.findClass RX5 = some m.cls := hown
  have hi_4 : ∀ w ∈ wsX40, w ∈ wsX5_init := by decide +kernel
  have hi_5 : ∀ w ∈ wsX50, w ∈ wsX5_init := by decide +kernel
  have hf_12 := hts (.fieldLink RX5 12 "FireNets$Search" "purses" "LFireNets$Purses;") (by decide +kernel)
  have hf_18 := hts (.fieldLink RX5 18 "FireNets$Search" "way" "[I") (by decide +kernel)
  have hf_22 := hts (.fieldLink RX5 22 "FireNets$Search" "kept" "[I") (by decide +kernel)
  have hoi_3 := hts (.methodLink RX5 3 objectInit) (by decide +kernel)
  have hoi_i := hts (.instanceMethod objectInit) (by decide +kernel)
  have hoi_c := hts (.code objectInit ⟨#[0xb1]⟩ 1 none) (by decide +kernel)
  have hcl_9 := hts (.classLink RX5 9 RX4) (by decide +kernel)
  have hins_X4 := hts (.instantiable RX4 2) (by decide +kernel)
  have hini_RX4 := hts (.initialized RX4) (by decide +kernel)
  have him_X4_init := hts (.instanceMethod yX4_init) (by decide +kernel)
  have hml_11 := hts (.methodLink RX5 11 yX4_init) (by decide +kernel)
  have harr_I := hts (.arrayClass .int) (by decide +kernel)
  have hS : va_S A s.heap s.heap [] := va_S.rf
  have hl : lv_has ls 1 [(0, .ref q0)] := hl
  have hP : va_P D vwCl [(q0, .inr (5, [.null, .int 0, .int 0, .int 0, .int 0, .int 0, .null, .null]))] s.heap := hP
  refine lv_aload_n hx hb dX5_init_0 rfl (lv_at hl 0 rfl) ?_
  refine W.objInit hx hb hown hoi_3 hoi_i hoi_c rfl (by rw [hml]; exact hl.1) rfl dX5_init_1 (Nat.le_of_ble_eq_true rfl) (Nat.le_of_ble_eq_true rfl) ?_
  refine W.eq (g2 := F0 m 4 ls []) rfl ?_
  refine lv_aload_n hx hb dX5_init_4 rfl (lv_at hl 0 rfl) ?_
  refine va_new (D := D) (ci := 4) (fs := [.null, .int 0]) (C := RX4) (T := TX4) (N := 2) hx hb hts hi_4 tyX4 tyX4_ok hown hcl_9 hins_X4 hini_RX4 hK hP hD hS hAg rfl (fun j hj => by rcases (show j = 0 ∨ j = 1 by omega) with rfl | rfl <;> rfl) (Nat.le_of_ble_eq_true rfl) (Nat.le_of_ble_eq_true rfl) dX5_init_5 (fun q_1 H hP hD hS => ?_)
  have hP : va_P D vwCl [(q0, .inr (5, [.null, .int 0, .int 0, .int 0, .int 0, .int 0, .null, .null])), (q_1, .inr (4, [.null, .int 0]))] H := hP
  have hD : va_D A [(q0, .inr (5, [.null, .int 0, .int 0, .int 0, .int 0, .int 0, .null, .null])), (q_1, .inr (4, [.null, .int 0]))] := hD
  refine W.widen (k := 1) (n := 2) (Nat.le_of_ble_eq_true rfl) (Nat.le_of_ble_eq_true rfl) ?_
  refine lv_dup hx hb dX5_init_8 rfl ?_
  refine goC hP hD hS hAg (va_runI (As := []) (rest := [.ref q_1, .ref q0]) ⟨hx, hb, hml, hown, hts⟩ (kX4_init l D cI cJ q_1 H.size) (cwI 0 hts gX5_init_X4_init rfl rfl rfl hini_RX4 hml_11 him_X4_init rfl kdX4_init.2 ⟨Nat.le_of_ble_eq_true rfl, Nat.le_of_ble_eq_true rfl⟩) (preC hK hN hP hD [1] rfl (by decide)) rfl rfl hl.1 rfl (lv_room (Nat.le_of_ble_eq_true rfl)) dX5_init_9 ⟨Nat.le_of_ble_eq_true rfl, Nat.le_of_ble_eq_true rfl⟩) [1] [0] (wr := [(q0, .inr (5, [.null, .int 0, .int 0, .int 0, .int 0, .int 0, .null, .null]))]) rfl rfl (by decide) (by decide) (fun u_9 H locs hP hD hS => ?_)
  obtain ⟨x1_2, rfl⟩ : ∃ z, z = u_9 := ⟨_, rfl⟩
  have hP : va_P D vwCl [(q0, .inr (5, [.null, .int 0, .int 0, .int 0, .int 0, .int 0, .null, .null])), (q_1, .inr (4, [.ref x1_2, .int 0])), (x1_2, .inl (cI, 8, .inl (fillF (fun _ => 0) 1 8)))] H := hP
  have hD : va_D A [(q0, .inr (5, [.null, .int 0, .int 0, .int 0, .int 0, .int 0, .null, .null])), (q_1, .inr (4, [.ref x1_2, .int 0])), (x1_2, .inl (cI, 8, .inl (fillF (fun _ => 0) 1 8)))] := hD
  refine W.widen (k := 2) (n := 10) (Nat.le_of_ble_eq_true rfl) (Nat.le_of_ble_eq_true rfl) ?_
  refine va_putF (D := D) (ci := 5) (v := .ref q_1) (ty := (.object "FireNets$Purses")) (C := RX5) (T := TX5) (N := 8) hx hb hts hi_5 tyX5 tyX5_ok nmX5 hown hK hP hD hS 0 rfl rfl 0 (by decide) hf_12 (fun _ h9 => h9) rfl hin rfl (by decide +kernel) rfl rfl (Nat.le_of_ble_eq_true rfl) dX5_init_12 (fun H locs hP hD hS => ?_)
  have hP : va_P D vwCl [(q0, .inr (5, [.ref q_1, .int 0, .int 0, .int 0, .int 0, .int 0, .null, .null])), (q_1, .inr (4, [.ref x1_2, .int 0])), (x1_2, .inl (cI, 8, .inl (fillF (fun _ => 0) 1 8)))] H := hP
  have hD : va_D A [(q0, .inr (5, [.ref q_1, .int 0, .int 0, .int 0, .int 0, .int 0, .null, .null])), (q_1, .inr (4, [.ref x1_2, .int 0])), (x1_2, .inl (cI, 8, .inl (fillF (fun _ => 0) 1 8)))] := hD
  refine lv_aload_n hx hb dX5_init_15 rfl (lv_at hl 0 rfl) ?_
  refine lv_bipush (v := 8) hx hb dX5_init_16 (by decide) ?_
  refine goNI hx hb harr_I hK hP hD hS hAg (n := 8) (N := 8) (by decide) (by decide) (by decide) (Nat.le_of_ble_eq_true rfl) (Nat.le_of_ble_eq_true rfl) dX5_init_18 (fun q_3 H hP hD hS => ?_)
  have hP : va_P D vwCl [(q0, .inr (5, [.ref q_1, .int 0, .int 0, .int 0, .int 0, .int 0, .null, .null])), (q_1, .inr (4, [.ref x1_2, .int 0])), (x1_2, .inl (cI, 8, .inl (fillF (fun _ => 0) 1 8))), (q_3, .inl (cI, 8, .inl (fun _ => 0)))] H := hP
  have hD : va_D A [(q0, .inr (5, [.ref q_1, .int 0, .int 0, .int 0, .int 0, .int 0, .null, .null])), (q_1, .inr (4, [.ref x1_2, .int 0])), (x1_2, .inl (cI, 8, .inl (fillF (fun _ => 0) 1 8))), (q_3, .inl (cI, 8, .inl (fun _ => 0)))] := hD
  refine W.widen (k := 3) (n := 18) (Nat.le_of_ble_eq_true rfl) (Nat.le_of_ble_eq_true rfl) ?_
  refine va_putF (D := D) (ci := 5) (v := .ref q_3) (ty := (.array .int)) (C := RX5) (T := TX5) (N := 8) hx hb hts hi_5 tyX5 tyX5_ok nmX5 hown hK hP hD hS 0 rfl rfl 6 (by decide) hf_18 (fun _ h9 => h9) rfl hin rfl (by decide +kernel) rfl rfl (Nat.le_of_ble_eq_true rfl) dX5_init_20 (fun H locs hP hD hS => ?_)
  have hP : va_P D vwCl [(q0, .inr (5, [.ref q_1, .int 0, .int 0, .int 0, .int 0, .int 0, .ref q_3, .null])), (q_1, .inr (4, [.ref x1_2, .int 0])), (x1_2, .inl (cI, 8, .inl (fillF (fun _ => 0) 1 8))), (q_3, .inl (cI, 8, .inl (fun _ => 0)))] H := hP
  have hD : va_D A [(q0, .inr (5, [.ref q_1, .int 0, .int 0, .int 0, .int 0, .int 0, .ref q_3, .null])), (q_1, .inr (4, [.ref x1_2, .int 0])), (x1_2, .inl (cI, 8, .inl (fillF (fun _ => 0) 1 8))), (q_3, .inl (cI, 8, .inl (fun _ => 0)))] := hD
  refine lv_aload_n hx hb dX5_init_23 rfl (lv_at hl 0 rfl) ?_
  refine lv_bipush (v := 8) hx hb dX5_init_24 (by decide) ?_
  refine goNI hx hb harr_I hK hP hD hS hAg (n := 8) (N := 8) (by decide) (by decide) (by decide) (Nat.le_of_ble_eq_true rfl) (Nat.le_of_ble_eq_true rfl) dX5_init_26 (fun q_4 H hP hD hS => ?_)
  have hP : va_P D vwCl [(q0, .inr (5, [.ref q_1, .int 0, .int 0, .int 0, .int 0, .int 0, .ref q_3, .null])), (q_1, .inr (4, [.ref x1_2, .int 0])), (x1_2, .inl (cI, 8, .inl (fillF (fun _ => 0) 1 8))), (q_3, .inl (cI, 8, .inl (fun _ => 0))), (q_4, .inl (cI, 8, .inl (fun _ => 0)))] H := hP
  have hD : va_D A [(q0, .inr (5, [.ref q_1, .int 0, .int 0, .int 0, .int 0, .int 0, .ref q_3, .null])), (q_1, .inr (4, [.ref x1_2, .int 0])), (x1_2, .inl (cI, 8, .inl (fillF (fun _ => 0) 1 8))), (q_3, .inl (cI, 8, .inl (fun _ => 0))), (q_4, .inl (cI, 8, .inl (fun _ => 0)))] := hD
  refine W.widen (k := 4) (n := 26) (Nat.le_of_ble_eq_true rfl) (Nat.le_of_ble_eq_true rfl) ?_
  refine va_putF (D := D) (ci := 5) (v := .ref q_4) (ty := (.array .int)) (C := RX5) (T := TX5) (N := 8) hx hb hts hi_5 tyX5 tyX5_ok nmX5 hown hK hP hD hS 0 rfl rfl 7 (by decide) hf_22 (fun _ h9 => h9) rfl hin rfl (by decide +kernel) rfl rfl (Nat.le_of_ble_eq_true rfl) dX5_init_28 (fun H locs hP hD hS => ?_)
  have hP : va_P D vwCl [(q0, .inr (5, [.ref q_1, .int 0, .int 0, .int 0, .int 0, .int 0, .ref q_3, .ref q_4])), (q_1, .inr (4, [.ref x1_2, .int 0])), (x1_2, .inl (cI, 8, .inl (fillF (fun _ => 0) 1 8))), (q_3, .inl (cI, 8, .inl (fun _ => 0))), (q_4, .inl (cI, 8, .inl (fun _ => 0)))] H := hP
  have hD : va_D A [(q0, .inr (5, [.ref q_1, .int 0, .int 0, .int 0, .int 0, .int 0, .ref q_3, .ref q_4])), (q_1, .inr (4, [.ref x1_2, .int 0])), (x1_2, .inl (cI, 8, .inl (fillF (fun _ => 0) 1 8))), (q_3, .inl (cI, 8, .inl (fun _ => 0))), (q_4, .inl (cI, 8, .inl (fun _ => 0)))] := hD
  exact endC ⟨q_1, x1_2, q_3, q_4⟩ hx hb hr hlocks hA hQ hS hP hD dX5_init_31 rfl

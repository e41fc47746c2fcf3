/-! THE CLAIM OUT OF ONE WALK OF THE LAW'S BODY. Your part is whole_start (and what it stands on); all else here is the same for every law, but numbers. -/
def R_law : String := "FireNetsLaw"
def lw_P (b : Addr) (xs : List Int32) (args : Array Value) (s : State) : Prop := args = #[.ref b] ∧ s.IntsAt b xs ∧ xs.length ≤ 3584 ∧ (Jvm.Cond.and given_1 narrow_1).before args s = true
def lw_Q (_ : Array Value) (s : State) (o : Outcome) (t : State) : Prop := o = .returned (some (.int 1)) ∧ Framed s o t [] 600000 7302250
def lw_Z (below : List Frame) (a : Array Value) (s : State) : State → Prop := fun t => ∃ o, t.status = .running ∧ Ended t below o ∧ lw_Q a s o t
/-- the law's own end, with 1 on the stack, nothing written that was there before, its room as the claim has it -/
theorem lw_ret {p : Program} {l : Launch} {e : Env} {s : State} {m : MethodId} {below : List Frame} {meth : Method} {c : Code} {b : Nat} (hx : p.tables.exec = Jvm.exec) (hb : c.code = code) (hr : meth.sig.returnType = ret) (hlocks : meth.locks = false) {pc : Nat} {H : Heap} {ls : Array Slot} (hdg : decode code pc = .ok (.ireturn, 1)) : W p l e room_1 s m #[Value.ref b] below meth c H [] 600000 7302250 (lw_Z below #[Value.ref b] s) (F0 m pc ls [.int 1]) := by
  intro T hT X
  obtain ⟨fs, hret, hrun, hended, hW, hframe⟩ := X.leave (v := some (.int 1)) (hlocks := hlocks) (fun h => by rw [hr] at h; cases h)
  have hmeth' : T.vm.method? m = some meth := X.method'
  refine ⟨T.setFrames fs, ?_, .returned (some (.int 1)), hrun, hended, rfl, ⟨_, rfl⟩, hW, hframe⟩
  jvm_step X.here [X.here.top, hx, hb, hdg, hmeth', hr, ret, narrow_b1]
  (try refine ⟨rfl, ?_⟩); (try refine ⟨rfl, ?_⟩)
  first | (intro acts; rw [hret _ acts rfl rfl rfl]) | rw [hret _ _ rfl rfl rfl]
  exact Steps.refl _
/-- what holds at the law's entry: the machine, the code, the tables' words (any of lw_tbl by 'hts w (by decide +kernel)'), the script of L ints xs at the cell b, what the Statement gives of the start (any of its parts by flat_of_before) -/
def lw_At (p : Program) (s : State) (m : MethodId) (meth : Method) (c : Code) (b L : Nat) (xs : Nat → Int32) : Prop :=
  p.tables.exec = Jvm.exec ∧ c.code = code ∧ meth.sig.returnType = ret ∧ c.maxLocals = 4 ∧ s.vm.findClass R_law = some m.cls ∧ (∀ w ∈ lw_tbl, w.before #[Value.ref b] s = true) ∧ va_X b L xs s s.heap ∧ b < s.heap.size ∧ meth.locks = false ∧ (Jvm.Cond.and given_1 narrow_1).before #[Value.ref b] s = true
/-! the law's loop: one call each; what the loop carries is the world of both and INV -/
def lawW (cI cJ : ClassId) (fn nt aw ap an ae pu ao al co se pv av wya kp ch ac bo ax ay az ab af ag mo me mj mw mp mu ml mq m1 m2 m3 m4 m5 m6 m7 m8 : Nat) (nn mm : Nat) (wo pr ne en : Row) (ke : Int32) (ow pl : Row) (bd : Int32) (x : Cs) (xs : Ss) (bs kf : Int32) (ov : Row) (ln ba op sh : Int32) (ec : Row) (sq : Nat) (xb : Bs) (wx wy wt : Row) (nn' mm' : Nat) (ke' : Bool) (bd' : Int32) (sq' : Nat) (fi' gu' le' cs' : Int32) (bA' : Bool) (oV' lk' : Int32) (sp' : Bool) (bs' bo' su' sl' lo' sh' : Int32) (en' ne' wo' pr' ow' pl' wa' tr' fa' ga' la' bz' pz' kz' bb' : Row) : va_W := [(fn, .inr (6, [.ref nt, .ref pu, .ref al, .ref co, .ref se, .ref ch, .ref bo, .int bd])), (nt, .inr (3, [.int (nI nn), .int (nI mm), .ref aw, .ref ap, .ref an, .ref ae])), (aw, .inl (cI, 10, .inl wo)), (ap, .inl (cI, 10, .inl pr)), (an, .inl (cI, 10, .inl ne)), (ae, .inl (cI, 24, .inl en)), (pu, .inr (4, [.ref ao, .int ke])), (ao, .inl (cI, 8, .inl ow)), (al, .inl (cI, 8, .inl pl)), (co, .inr (2, [.int x.1, .int x.2.1, .int (nI x.2.2.1), .int x.2.2.2.1, .int (zb (x.2.2.2.2.1 = true)), .int (zb (x.2.2.2.2.2.1 = true)), .int x.2.2.2.2.2.2])), (se, .inr (5, [.ref pv, .int xs.1, .int xs.2.1, .int xs.2.2.1, .int (zb (xs.2.2.2.1 = true)), .int bs, .ref wya, .ref kp])), (pv, .inr (4, [.ref av, .int kf])), (av, .inl (cI, 8, .inl ov)), (wya, .inl (cI, 8, .inl xs.2.2.2.2.1)), (kp, .inl (cI, 8, .inl xs.2.2.2.2.2)), (ch, .inr (1, [.ref ac, .int ln, .int ba, .int op, .int sh])), (ac, .inl (cI, 12, .inl ec)), (bo, .inr (0, [.int (nI sq), .int xb.1, .int xb.2.1, .ref ax, .ref ay, .ref az, .ref ab, .ref af, .ref ag])), (ax, .inl (cI, 40, .inl wx)), (ay, .inl (cI, 40, .inl wy)), (az, .inl (cI, 40, .inl wt)), (ab, .inl (cJ, 49, .inr (.inl xb.2.2.1))), (af, .inl (cJ, 49, .inr (.inl xb.2.2.2.1))), (ag, .inl (cJ, 49, .inr (.inl xb.2.2.2.2))), (mo, .inr (7, moV (nI nn') (nI mm') me mj mw mp mu (zb (ke' = true)) bd' ml (nI sq') mq fi' gu' le' cs' (zb (bA' = true)) oV' m1 m2 m3 m4 lk' (zb (sp' = true)) bs' bo' m5 m6 m7 su' sl' m8 lo' sh')), (me, .inl (cI, 48, .inl en')), (mj, .inl (cI, 10, .inl ne')), (mw, .inl (cI, 10, .inl wo')), (mp, .inl (cI, 10, .inl pr')), (mu, .inl (cI, 9, .inl ow')), (ml, .inl (cI, 9, .inl pl')), (mq, .inl (cI, 120, .inl wa')), (m1, .inl (cI, 10, .inl tr')), (m2, .inl (cI, 10, .inl fa')), (m3, .inl (cI, 10, .inl ga')), (m4, .inl (cI, 10, .inl la')), (m5, .inl (cI, 9, .inl bz')), (m6, .inl (cI, 1024, .inl pz')), (m7, .inl (cI, 9, .inl kz')), (m8, .inl (cI, 3721, .inl bb'))]
section LAW
variable {p : Program} {l : Launch} {e : Env} {s : State} {m : MethodId} {below : List Frame} {meth : Method} {c : Code} {b L : Nat} {xv : Nat → Int32} {D : va_G} {cI cJ : ClassId} {H : Heap} {locs : List Loc} {ls : Array Slot} {i : Nat}
variable {fn nt aw ap an ae pu ao al co se pv av wya kp ch ac bo ax ay az ab af ag mo me mj mw mp mu ml mq m1 m2 m3 m4 m5 m6 m7 m8 : Nat} {nn mm : Nat} {wo pr ne en : Row} {ke : Int32} {ow pl : Row} {bd : Int32} {x : Cs} {xs : Ss} {bs kf : Int32} {ov : Row} {ln ba op sh : Int32} {ec : Row} {sq : Nat} {xb : Bs} {wx wy wt : Row} {nn' mm' : Nat} {ke' : Bool} {bd' : Int32} {sq' : Nat} {fi' gu' le' cs' : Int32} {bA' : Bool} {oV' lk' : Int32} {sp' : Bool} {bs' bo' su' sl' lo' sh' : Int32} {en' ne' wo' pr' ow' pl' wa' tr' fa' ga' la' bz' pz' kz' bb' : Row}
/-- the law going on behind a call -/
def LawGo (p : Program) (l : Launch) (e : Env) (s : State) (m : MethodId) (below : List Frame) (meth : Method) (c : Code) (b : Nat) (D : va_G) (cI cJ : ClassId) (fn nt aw ap an ae pu ao al co se pv av wya kp ch ac bo ax ay az ab af ag mo me mj mw mp mu ml mq m1 m2 m3 m4 m5 m6 m7 m8 : Nat) (ls : Array Slot) : Prop :=
  ∀ (nn mm : Nat) (wo pr ne en : Row) (ke : Int32) (ow pl : Row) (bd : Int32) (x : Cs) (xs : Ss) (bs kf : Int32) (ov : Row) (ln ba op sh : Int32) (ec : Row) (sq : Nat) (xb : Bs) (wx wy wt : Row) (nn' mm' : Nat) (ke' : Bool) (bd' : Int32) (sq' : Nat) (fi' gu' le' cs' : Int32) (bA' : Bool) (oV' lk' : Int32) (sp' : Bool) (bs' bo' su' sl' lo' sh' : Int32) (en' ne' wo' pr' ow' pl' wa' tr' fa' ga' la' bz' pz' kz' bb' : Row) (H : Heap) (locs : List Loc), INV nn mm wo pr ne en ke ow pl bd sq wx wy wt nn' mm' ke' bd' sq' en' ne' wo' pr' ow' pl' wa' → va_P D vwCl (lawW cI cJ fn nt aw ap an ae pu ao al co se pv av wya kp ch ac bo ax ay az ab af ag mo me mj mw mp mu ml mq m1 m2 m3 m4 m5 m6 m7 m8 nn mm wo pr ne en ke ow pl bd x xs bs kf ov ln ba op sh ec sq xb wx wy wt nn' mm' ke' bd' sq' fi' gu' le' cs' bA' oV' lk' sp' bs' bo' su' sl' lo' sh' en' ne' wo' pr' ow' pl' wa' tr' fa' ga' la' bz' pz' kz' bb') H → va_D (fun q : Nat => s.heap.size ≤ q) (lawW cI cJ fn nt aw ap an ae pu ao al co se pv av wya kp ch ac bo ax ay az ab af ag mo me mj mw mp mu ml mq m1 m2 m3 m4 m5 m6 m7 m8 nn mm wo pr ne en ke ow pl bd x xs bs kf ov ln ba op sh ec sq xb wx wy wt nn' mm' ke' bd' sq' fi' gu' le' cs' bA' oV' lk' sp' bs' bo' su' sl' lo' sh' en' ne' wo' pr' ow' pl' wa' tr' fa' ga' la' bz' pz' kz' bb') → va_S (fun q : Nat => s.heap.size ≤ q) s.heap H locs → W p l e room_1 s m #[Value.ref b] below meth c H locs 40 5473 (lw_Z below #[Value.ref b] s) (F0 m 811 ls [])
theorem law_in {i L : Nat} (h : i + 7 ≤ L) (hL : L ≤ 3584) {j : Nat} (hj : j < 7) : vp_in (nI i + nI j) L := by
  rw [nI_add]
  exact vp_in_nI (by omega) (by omega)
theorem law_arg {st0 : List Value} {Q : State → Prop} {pc : Nat} (hx : p.tables.exec = Jvm.exec) (hb : c.code = cL_law) (hX : va_X b L xv s s.heap) (hbl : b < s.heap.size) (hbA : ¬ (fun q : Nat => s.heap.size ≤ q) b) (hS : va_S (fun q : Nat => s.heap.size ≤ q) s.heap H locs) (hi : i + 7 ≤ L) (hL : L ≤ 3584) {j : Nat} (hj : j < 7) {y a : Int32} (hy : y = nI i + nI j) (ha : xv (nI i + nI j).toNatClampNeg = a) (hdg : decode cL_law pc = .ok (.iaload, 1))
    (kk : W p l e room_1 s m #[Value.ref b] below meth c H locs 40 5473 Q (F0 m (pc + 1) ls (.int a :: st0))) : W p l e room_1 s m #[Value.ref b] below meth c H locs 40 5473 Q (F0 m pc ls (.int y :: .ref b :: st0)) := by
  subst hy
  refine va_sld hx hb hX hbl hbA hS (law_in hi hL hj) hdg ?_
  rw [ha]
  exact kk
set_option maxHeartbeats 4000000 in
set_option maxRecDepth 100000 in
theorem law_net (C0 : lw_At p s m meth c b L xv) (hL : L ≤ 3584) (hi : i + 7 ≤ L) (hK : va_K D vwCl (aT cI cJ) s) (hN : NW s) {a1 : Int32} (h1 : xv (nI i + nI 1).toNatClampNeg = a1) (hinv : INV nn mm wo pr ne en ke ow pl bd sq wx wy wt nn' mm' ke' bd' sq' en' ne' wo' pr' ow' pl' wa') (hP : va_P D vwCl (lawW cI cJ fn nt aw ap an ae pu ao al co se pv av wya kp ch ac bo ax ay az ab af ag mo me mj mw mp mu ml mq m1 m2 m3 m4 m5 m6 m7 m8 nn mm wo pr ne en ke ow pl bd x xs bs kf ov ln ba op sh ec sq xb wx wy wt nn' mm' ke' bd' sq' fi' gu' le' cs' bA' oV' lk' sp' bs' bo' su' sl' lo' sh' en' ne' wo' pr' ow' pl' wa' tr' fa' ga' la' bz' pz' kz' bb') H) (hD : va_D (fun q : Nat => s.heap.size ≤ q) (lawW cI cJ fn nt aw ap an ae pu ao al co se pv av wya kp ch ac bo ax ay az ab af ag mo me mj mw mp mu ml mq m1 m2 m3 m4 m5 m6 m7 m8 nn mm wo pr ne en ke ow pl bd x xs bs kf ov ln ba op sh ec sq xb wx wy wt nn' mm' ke' bd' sq' fi' gu' le' cs' bA' oV' lk' sp' bs' bo' su' sl' lo' sh' en' ne' wo' pr' ow' pl' wa' tr' fa' ga' la' bz' pz' kz' bb')) (hS : va_S (fun q : Nat => s.heap.size ≤ q) s.heap H locs) (hl : lv_has ls 4 [(0, .ref b), (1, .ref fn), (2, .ref mo), (3, .int (nI i))]) (kk : LawGo p l e s m below meth c b D cI cJ fn nt aw ap an ae pu ao al co se pv av wya kp ch ac bo ax ay az ab af ag mo me mj mw mp mu ml mq m1 m2 m3 m4 m5 m6 m7 m8 ls) : W p l e room_1 s m #[Value.ref b] below meth c H locs 40 5473 (lw_Z below #[Value.ref b] s) (F0 m 128 ls []) := by
  obtain ⟨hx, hb, hr, hml, hown, hts0, hX, hbl0, hlocks, hgv⟩ := id C0
  have hown : s.vm.findClass RL = some m.cls := hown
  have hb : c.code = cL_law := hb
  have hts : ∀ w ∈ wsL_law, w.before #[Value.ref b] s = true := fun w hw => hts0 w (wsL_law_in w hw)
  have hbA : ¬ (fun q : Nat => s.heap.size ≤ q) b := Nat.not_le.mpr hbl0
  obtain ⟨e1, e2, e3, e4, hm24, hsq, ⟨b0, p0, q0, hs⟩, ⟨o0, hpur⟩, hke, hen, hpl, hw⟩ := id hinv
  have e1 := e1.symm
  have e2 := e2.symm
  have e3 := e3.symm
  have e4 := e4.symm
  subst e1 e2 e3 e4
  obtain ⟨hn1, hn10, hpr, hne, hwo, hbl, hpc1, hpc9, hqc1, hqc9, hbd, hb1, hb2⟩ := id hs
  obtain ⟨ho, hoN, hkeE⟩ := id hpur
  refine lv_aload_n hx hb dL_law_128 rfl (lv_at hl 1 rfl) ?_
  refine lv_aload_n hx hb dL_law_129 rfl (lv_at hl 0 rfl) ?_
  refine lv_iload_n hx hb dL_law_130 rfl (lv_at hl 3 rfl) ?_
  refine lv_iconst (v := 1) hx hb dL_law_131 (by decide) ?_
  refine lv_iadd hx hb dL_law_132 ?_
  refine law_arg hx hb hX hbl0 hbA hS hi hL (j := 1) (by decide) rfl h1 dL_law_133 ?_
  refine goMI hP hD hS (va_runV (As := [.int a1]) (rest := []) ⟨hx, hb, hml, hown, hts⟩ (kX6_net l D cI cJ fn nt pu al co se ch bo bd nn mm aw ap an ae wo pr ne pl a1) (cwV 1 hts gL_law_X6_net rfl rfl rfl kdX6_net ⟨Nat.le_of_ble_eq_true rfl, Nat.le_of_ble_eq_true rfl⟩) (preMV hK hN hP hD 0 (ci := 6) rfl rfl rfl [0, 1, 2, 3, 4, 8] rfl (by decide)) rfl rfl hl.1 rfl (lv_room (Nat.le_of_ble_eq_true rfl)) dL_law_134 ⟨Nat.le_of_ble_eq_true rfl, Nat.le_of_ble_eq_true rfl⟩) [0, 1, 2, 3, 4, 8] rfl (by decide) (fun _ => (show ([fn, nt, aw, ap, an, al] : List Nat) = [fn, nt, aw, ap, an, al] from rfl)) (fun rC u H locs hp1 hP hD hS => ?_)
  have hP : va_P D vwCl (lawW cI cJ fn nt aw ap an ae pu ao al co se pv av wya kp ch ac bo ax ay az ab af ag mo me mj mw mp mu ml mq m1 m2 m3 m4 m5 m6 m7 m8 (if 1 ≤ a1 ∧ a1 ≤ 10 then a1.toNatClampNeg else nn) (if 1 ≤ a1 ∧ a1 ≤ 10 then 0 else mm) (if 1 ≤ a1 ∧ a1 ≤ 10 then fillF wo 1 10 else wo) (if 1 ≤ a1 ∧ a1 ≤ 10 then fillF pr 1 10 else pr) (if 1 ≤ a1 ∧ a1 ≤ 10 then fillF ne 0 10 else ne) en ke ow (if 1 ≤ a1 ∧ a1 ≤ 10 then fillF pl 0 8 else pl) bd x xs bs kf ov ln ba op sh ec sq xb wx wy wt nn mm ke' bd sq fi' gu' le' cs' bA' oV' lk' sp' bs' bo' su' sl' lo' sh' en' ne' wo' pr' ow' pl' wa' tr' fa' ga' la' bz' pz' kz' bb') H := hP
  have hD : va_D (fun q : Nat => s.heap.size ≤ q) (lawW cI cJ fn nt aw ap an ae pu ao al co se pv av wya kp ch ac bo ax ay az ab af ag mo me mj mw mp mu ml mq m1 m2 m3 m4 m5 m6 m7 m8 (if 1 ≤ a1 ∧ a1 ≤ 10 then a1.toNatClampNeg else nn) (if 1 ≤ a1 ∧ a1 ≤ 10 then 0 else mm) (if 1 ≤ a1 ∧ a1 ≤ 10 then fillF wo 1 10 else wo) (if 1 ≤ a1 ∧ a1 ≤ 10 then fillF pr 1 10 else pr) (if 1 ≤ a1 ∧ a1 ≤ 10 then fillF ne 0 10 else ne) en ke ow (if 1 ≤ a1 ∧ a1 ≤ 10 then fillF pl 0 8 else pl) bd x xs bs kf ov ln ba op sh ec sq xb wx wy wt nn mm ke' bd sq fi' gu' le' cs' bA' oV' lk' sp' bs' bo' su' sl' lo' sh' en' ne' wo' pr' ow' pl' wa' tr' fa' ga' la' bz' pz' kz' bb') := hD
  refine lv_aload_n hx hb dL_law_137 rfl (lv_at hl 2 rfl) ?_
  refine lv_aload_n hx hb dL_law_138 rfl (lv_at hl 0 rfl) ?_
  refine lv_iload_n hx hb dL_law_139 rfl (lv_at hl 3 rfl) ?_
  refine lv_iconst (v := 1) hx hb dL_law_140 (by decide) ?_
  refine lv_iadd hx hb dL_law_141 ?_
  refine law_arg hx hb hX hbl0 hbA hS hi hL (j := 1) (by decide) rfl h1 dL_law_142 ?_
  refine goMI hP hD hS (va_runV (As := [.int a1]) (rest := [.int rC]) ⟨hx, hb, hml, hown, hts⟩ (kX7_net l D cI cJ mo nn mm me mj mw mp mu ke' bd ml sq mq fi' gu' le' cs' bA' oV' m1 m2 m3 m4 lk' sp' bs' bo' m5 m6 m7 su' sl' m8 lo' sh' ne' wo' pr' pl' a1) (cwV 1 hts gL_law_X7_net rfl rfl rfl kdX7_net ⟨Nat.le_of_ble_eq_true rfl, Nat.le_of_ble_eq_true rfl⟩) (preMV hK hN hP hD 24 (ci := 7) rfl rfl rfl [24, 26, 27, 28, 30] rfl (by decide)) rfl rfl hl.1 rfl (lv_room (Nat.le_of_ble_eq_true rfl)) dL_law_143 ⟨Nat.le_of_ble_eq_true rfl, Nat.le_of_ble_eq_true rfl⟩) [24, 26, 27, 28, 30] rfl (by decide) (fun _ => (show ([mo, mj, mw, mp, ml] : List Nat) = [mo, mj, mw, mp, ml] from rfl)) (fun rM u2 H locs hp2 hP hD hS => ?_)
  have hP : va_P D vwCl (lawW cI cJ fn nt aw ap an ae pu ao al co se pv av wya kp ch ac bo ax ay az ab af ag mo me mj mw mp mu ml mq m1 m2 m3 m4 m5 m6 m7 m8 (if 1 ≤ a1 ∧ a1 ≤ 10 then a1.toNatClampNeg else nn) (if 1 ≤ a1 ∧ a1 ≤ 10 then 0 else mm) (if 1 ≤ a1 ∧ a1 ≤ 10 then fillF wo 1 10 else wo) (if 1 ≤ a1 ∧ a1 ≤ 10 then fillF pr 1 10 else pr) (if 1 ≤ a1 ∧ a1 ≤ 10 then fillF ne 0 10 else ne) en ke ow (if 1 ≤ a1 ∧ a1 ≤ 10 then fillF pl 0 8 else pl) bd x xs bs kf ov ln ba op sh ec sq xb wx wy wt (if 1 ≤ a1 ∧ a1 ≤ 10 then a1.toNatClampNeg else nn) (if 1 ≤ a1 ∧ a1 ≤ 10 then 0 else mm) ke' bd sq fi' gu' le' cs' bA' oV' lk' sp' bs' bo' su' sl' lo' sh' en' (if 1 ≤ a1 ∧ a1 ≤ 10 then fillF ne' 0 10 else ne') (if 1 ≤ a1 ∧ a1 ≤ 10 then fillF wo' 1 10 else wo') (if 1 ≤ a1 ∧ a1 ≤ 10 then fillF pr' 1 10 else pr') ow' (if 1 ≤ a1 ∧ a1 ≤ 10 then fillF pl' 0 9 else pl') wa' tr' fa' ga' la' bz' pz' kz' bb') H := hP
  have hD : va_D (fun q : Nat => s.heap.size ≤ q) (lawW cI cJ fn nt aw ap an ae pu ao al co se pv av wya kp ch ac bo ax ay az ab af ag mo me mj mw mp mu ml mq m1 m2 m3 m4 m5 m6 m7 m8 (if 1 ≤ a1 ∧ a1 ≤ 10 then a1.toNatClampNeg else nn) (if 1 ≤ a1 ∧ a1 ≤ 10 then 0 else mm) (if 1 ≤ a1 ∧ a1 ≤ 10 then fillF wo 1 10 else wo) (if 1 ≤ a1 ∧ a1 ≤ 10 then fillF pr 1 10 else pr) (if 1 ≤ a1 ∧ a1 ≤ 10 then fillF ne 0 10 else ne) en ke ow (if 1 ≤ a1 ∧ a1 ≤ 10 then fillF pl 0 8 else pl) bd x xs bs kf ov ln ba op sh ec sq xb wx wy wt (if 1 ≤ a1 ∧ a1 ≤ 10 then a1.toNatClampNeg else nn) (if 1 ≤ a1 ∧ a1 ≤ 10 then 0 else mm) ke' bd sq fi' gu' le' cs' bA' oV' lk' sp' bs' bo' su' sl' lo' sh' en' (if 1 ≤ a1 ∧ a1 ≤ 10 then fillF ne' 0 10 else ne') (if 1 ≤ a1 ∧ a1 ≤ 10 then fillF wo' 1 10 else wo') (if 1 ≤ a1 ∧ a1 ≤ 10 then fillF pr' 1 10 else pr') ow' (if 1 ≤ a1 ∧ a1 ≤ 10 then fillF pl' 0 9 else pl') wa' tr' fa' ga' la' bz' pz' kz' bb') := hD
  refine lv_icmp_eq (tgt := 811) hx hb dL_law_146 (by decide) (fun _ => ?_) (fun hdif => absurd (by rw [show rC = _ from hp1, show rM = _ from hp2]) hdif)
  exact kk _ _ _ _ _ _ _ _ _ _ _ _ _ _ _ _ _ _ _ _ _ _ _ _ _ _ _ _ _ _ _ _ _ _ _ _ _ _ _ _ _ _ _ _ _ _ _ _ _ _ _ _ _ _ _ _ _ _ _ H locs (inv_net hinv a1) hP hD hS
set_option maxHeartbeats 4000000 in
set_option maxRecDepth 100000 in
theorem law_line (C0 : lw_At p s m meth c b L xv) (hL : L ≤ 3584) (hi : i + 7 ≤ L) (hK : va_K D vwCl (aT cI cJ) s) (hN : NW s) {a1 a2 : Int32} (h1 : xv (nI i + nI 1).toNatClampNeg = a1) (h2 : xv (nI i + nI 2).toNatClampNeg = a2) (hinv : INV nn mm wo pr ne en ke ow pl bd sq wx wy wt nn' mm' ke' bd' sq' en' ne' wo' pr' ow' pl' wa') (hP : va_P D vwCl (lawW cI cJ fn nt aw ap an ae pu ao al co se pv av wya kp ch ac bo ax ay az ab af ag mo me mj mw mp mu ml mq m1 m2 m3 m4 m5 m6 m7 m8 nn mm wo pr ne en ke ow pl bd x xs bs kf ov ln ba op sh ec sq xb wx wy wt nn' mm' ke' bd' sq' fi' gu' le' cs' bA' oV' lk' sp' bs' bo' su' sl' lo' sh' en' ne' wo' pr' ow' pl' wa' tr' fa' ga' la' bz' pz' kz' bb') H) (hD : va_D (fun q : Nat => s.heap.size ≤ q) (lawW cI cJ fn nt aw ap an ae pu ao al co se pv av wya kp ch ac bo ax ay az ab af ag mo me mj mw mp mu ml mq m1 m2 m3 m4 m5 m6 m7 m8 nn mm wo pr ne en ke ow pl bd x xs bs kf ov ln ba op sh ec sq xb wx wy wt nn' mm' ke' bd' sq' fi' gu' le' cs' bA' oV' lk' sp' bs' bo' su' sl' lo' sh' en' ne' wo' pr' ow' pl' wa' tr' fa' ga' la' bz' pz' kz' bb')) (hS : va_S (fun q : Nat => s.heap.size ≤ q) s.heap H locs) (hl : lv_has ls 4 [(0, .ref b), (1, .ref fn), (2, .ref mo), (3, .int (nI i))]) (kk : LawGo p l e s m below meth c b D cI cJ fn nt aw ap an ae pu ao al co se pv av wya kp ch ac bo ax ay az ab af ag mo me mj mw mp mu ml mq m1 m2 m3 m4 m5 m6 m7 m8 ls) : W p l e room_1 s m #[Value.ref b] below meth c H locs 40 5473 (lw_Z below #[Value.ref b] s) (F0 m 151 ls []) := by
  obtain ⟨hx, hb, hr, hml, hown, hts0, hX, hbl0, hlocks, hgv⟩ := id C0
  have hown : s.vm.findClass RL = some m.cls := hown
  have hb : c.code = cL_law := hb
  have hts : ∀ w ∈ wsL_law, w.before #[Value.ref b] s = true := fun w hw => hts0 w (wsL_law_in w hw)
  have hbA : ¬ (fun q : Nat => s.heap.size ≤ q) b := Nat.not_le.mpr hbl0
  obtain ⟨e1, e2, e3, e4, hm24, hsq, ⟨b0, p0, q0, hs⟩, ⟨o0, hpur⟩, hke, hen, hpl, hw⟩ := id hinv
  have e1 := e1.symm
  have e2 := e2.symm
  have e3 := e3.symm
  have e4 := e4.symm
  subst e1 e2 e3 e4
  obtain ⟨hn1, hn10, hpr, hne, hwo, hbl, hpc1, hpc9, hqc1, hqc9, hbd, hb1, hb2⟩ := id hs
  obtain ⟨ho, hoN, hkeE⟩ := id hpur
  refine lv_aload_n hx hb dL_law_151 rfl (lv_at hl 1 rfl) ?_
  refine lv_aload_n hx hb dL_law_152 rfl (lv_at hl 0 rfl) ?_
  refine lv_iload_n hx hb dL_law_153 rfl (lv_at hl 3 rfl) ?_
  refine lv_iconst (v := 1) hx hb dL_law_154 (by decide) ?_
  refine lv_iadd hx hb dL_law_155 ?_
  refine law_arg hx hb hX hbl0 hbA hS hi hL (j := 1) (by decide) rfl h1 dL_law_156 ?_
  refine lv_aload_n hx hb dL_law_157 rfl (lv_at hl 0 rfl) ?_
  refine lv_iload_n hx hb dL_law_158 rfl (lv_at hl 3 rfl) ?_
  refine lv_iconst (v := 2) hx hb dL_law_159 (by decide) ?_
  refine lv_iadd hx hb dL_law_160 ?_
  refine law_arg hx hb hX hbl0 hbA hS hi hL (j := 2) (by decide) rfl h2 dL_law_161 ?_
  refine goMI hP hD hS (va_runV (As := [.int a1, .int a2]) (rest := []) ⟨hx, hb, hml, hown, hts⟩ (kX6_line l D cI cJ fn nt pu al co se ch bo bd nn mm aw ap an ae ne en a1 a2 hn1 hn10 hm24) (cwV 2 hts gL_law_X6_line rfl rfl rfl kdX6_line ⟨Nat.le_of_ble_eq_true rfl, Nat.le_of_ble_eq_true rfl⟩) (preMV hK hN hP hD 0 (ci := 6) rfl rfl rfl [0, 1, 4, 5] rfl (by decide)) rfl rfl hl.1 rfl (lv_room (Nat.le_of_ble_eq_true rfl)) dL_law_162 ⟨Nat.le_of_ble_eq_true rfl, Nat.le_of_ble_eq_true rfl⟩) [0, 1, 4, 5] rfl (by decide) (fun _ => (show ([fn, nt, an, ae] : List Nat) = [fn, nt, an, ae] from rfl)) (fun rC u H locs hp1 hP hD hS => ?_)
  have hP : va_P D vwCl (lawW cI cJ fn nt aw ap an ae pu ao al co se pv av wya kp ch ac bo ax ay az ab af ag mo me mj mw mp mu ml mq m1 m2 m3 m4 m5 m6 m7 m8 nn (if linkO nn mm ne a1 a2 = true then mm + 1 else mm) wo pr (if linkO nn mm ne a1 a2 = true then upd (upd ne a1.toNatClampNeg (ne a1.toNatClampNeg ||| (1 <<< (a2 &&& 31)))) a2.toNatClampNeg (upd ne a1.toNatClampNeg (ne a1.toNatClampNeg ||| (1 <<< (a2 &&& 31))) a2.toNatClampNeg ||| (1 <<< (a1 &&& 31))) else ne) (if linkO nn mm ne a1 a2 = true then upd en mm ((1 <<< (a1 &&& 31)) ||| (1 <<< (a2 &&& 31))) else en) ke ow pl bd x xs bs kf ov ln ba op sh ec sq xb wx wy wt nn mm ke' bd sq fi' gu' le' cs' bA' oV' lk' sp' bs' bo' su' sl' lo' sh' en' ne' wo' pr' ow' pl' wa' tr' fa' ga' la' bz' pz' kz' bb') H := hP
  have hD : va_D (fun q : Nat => s.heap.size ≤ q) (lawW cI cJ fn nt aw ap an ae pu ao al co se pv av wya kp ch ac bo ax ay az ab af ag mo me mj mw mp mu ml mq m1 m2 m3 m4 m5 m6 m7 m8 nn (if linkO nn mm ne a1 a2 = true then mm + 1 else mm) wo pr (if linkO nn mm ne a1 a2 = true then upd (upd ne a1.toNatClampNeg (ne a1.toNatClampNeg ||| (1 <<< (a2 &&& 31)))) a2.toNatClampNeg (upd ne a1.toNatClampNeg (ne a1.toNatClampNeg ||| (1 <<< (a2 &&& 31))) a2.toNatClampNeg ||| (1 <<< (a1 &&& 31))) else ne) (if linkO nn mm ne a1 a2 = true then upd en mm ((1 <<< (a1 &&& 31)) ||| (1 <<< (a2 &&& 31))) else en) ke ow pl bd x xs bs kf ov ln ba op sh ec sq xb wx wy wt nn mm ke' bd sq fi' gu' le' cs' bA' oV' lk' sp' bs' bo' su' sl' lo' sh' en' ne' wo' pr' ow' pl' wa' tr' fa' ga' la' bz' pz' kz' bb') := hD
  refine lv_aload_n hx hb dL_law_165 rfl (lv_at hl 2 rfl) ?_
  refine lv_aload_n hx hb dL_law_166 rfl (lv_at hl 0 rfl) ?_
  refine lv_iload_n hx hb dL_law_167 rfl (lv_at hl 3 rfl) ?_
  refine lv_iconst (v := 1) hx hb dL_law_168 (by decide) ?_
  refine lv_iadd hx hb dL_law_169 ?_
  refine law_arg hx hb hX hbl0 hbA hS hi hL (j := 1) (by decide) rfl h1 dL_law_170 ?_
  refine lv_aload_n hx hb dL_law_171 rfl (lv_at hl 0 rfl) ?_
  refine lv_iload_n hx hb dL_law_172 rfl (lv_at hl 3 rfl) ?_
  refine lv_iconst (v := 2) hx hb dL_law_173 (by decide) ?_
  refine lv_iadd hx hb dL_law_174 ?_
  refine law_arg hx hb hX hbl0 hbA hS hi hL (j := 2) (by decide) rfl h2 dL_law_175 ?_
  refine goMI hP hD hS (va_runV (As := [.int a1, .int a2]) (rest := [.int rC]) ⟨hx, hb, hml, hown, hts⟩ (kX7_line l D cI cJ mo nn mm me mj mw mp mu ke' bd ml sq mq fi' gu' le' cs' bA' oV' m1 m2 m3 m4 lk' sp' bs' bo' m5 m6 m7 su' sl' m8 lo' sh' en' ne' a1 a2 hn1 hn10 hm24) (cwV 2 hts gL_law_X7_line rfl rfl rfl kdX7_line ⟨Nat.le_of_ble_eq_true rfl, Nat.le_of_ble_eq_true rfl⟩) (preMV hK hN hP hD 24 (ci := 7) rfl rfl rfl [24, 25, 26] rfl (by decide)) rfl rfl hl.1 rfl (lv_room (Nat.le_of_ble_eq_true rfl)) dL_law_176 ⟨Nat.le_of_ble_eq_true rfl, Nat.le_of_ble_eq_true rfl⟩) [24, 25, 26] rfl (by decide) (fun _ => (show ([mo, me, mj] : List Nat) = [mo, me, mj] from rfl)) (fun rM u2 H locs hp2 hP hD hS => ?_)
  have hP : va_P D vwCl (lawW cI cJ fn nt aw ap an ae pu ao al co se pv av wya kp ch ac bo ax ay az ab af ag mo me mj mw mp mu ml mq m1 m2 m3 m4 m5 m6 m7 m8 nn (if linkO nn mm ne a1 a2 = true then mm + 1 else mm) wo pr (if linkO nn mm ne a1 a2 = true then upd (upd ne a1.toNatClampNeg (ne a1.toNatClampNeg ||| (1 <<< (a2 &&& 31)))) a2.toNatClampNeg (upd ne a1.toNatClampNeg (ne a1.toNatClampNeg ||| (1 <<< (a2 &&& 31))) a2.toNatClampNeg ||| (1 <<< (a1 &&& 31))) else ne) (if linkO nn mm ne a1 a2 = true then upd en mm ((1 <<< (a1 &&& 31)) ||| (1 <<< (a2 &&& 31))) else en) ke ow pl bd x xs bs kf ov ln ba op sh ec sq xb wx wy wt nn (if linkR nn mm ne' a1 a2 = true then mm + 1 else mm) ke' bd sq fi' gu' le' cs' bA' oV' lk' sp' bs' bo' su' sl' lo' sh' (if linkR nn mm ne' a1 a2 = true then upd (upd en' (2 * mm) a1) (2 * mm + 1) a2 else en') (if linkR nn mm ne' a1 a2 = true then upd (upd ne' a1.toNatClampNeg (ne' a1.toNatClampNeg ||| (1 <<< (a2 &&& 31)))) a2.toNatClampNeg (upd ne' a1.toNatClampNeg (ne' a1.toNatClampNeg ||| (1 <<< (a2 &&& 31))) a2.toNatClampNeg ||| (1 <<< (a1 &&& 31))) else ne') wo' pr' ow' pl' wa' tr' fa' ga' la' bz' pz' kz' bb') H := hP
  have hD : va_D (fun q : Nat => s.heap.size ≤ q) (lawW cI cJ fn nt aw ap an ae pu ao al co se pv av wya kp ch ac bo ax ay az ab af ag mo me mj mw mp mu ml mq m1 m2 m3 m4 m5 m6 m7 m8 nn (if linkO nn mm ne a1 a2 = true then mm + 1 else mm) wo pr (if linkO nn mm ne a1 a2 = true then upd (upd ne a1.toNatClampNeg (ne a1.toNatClampNeg ||| (1 <<< (a2 &&& 31)))) a2.toNatClampNeg (upd ne a1.toNatClampNeg (ne a1.toNatClampNeg ||| (1 <<< (a2 &&& 31))) a2.toNatClampNeg ||| (1 <<< (a1 &&& 31))) else ne) (if linkO nn mm ne a1 a2 = true then upd en mm ((1 <<< (a1 &&& 31)) ||| (1 <<< (a2 &&& 31))) else en) ke ow pl bd x xs bs kf ov ln ba op sh ec sq xb wx wy wt nn (if linkR nn mm ne' a1 a2 = true then mm + 1 else mm) ke' bd sq fi' gu' le' cs' bA' oV' lk' sp' bs' bo' su' sl' lo' sh' (if linkR nn mm ne' a1 a2 = true then upd (upd en' (2 * mm) a1) (2 * mm + 1) a2 else en') (if linkR nn mm ne' a1 a2 = true then upd (upd ne' a1.toNatClampNeg (ne' a1.toNatClampNeg ||| (1 <<< (a2 &&& 31)))) a2.toNatClampNeg (upd ne' a1.toNatClampNeg (ne' a1.toNatClampNeg ||| (1 <<< (a2 &&& 31))) a2.toNatClampNeg ||| (1 <<< (a1 &&& 31))) else ne') wo' pr' ow' pl' wa' tr' fa' ga' la' bz' pz' kz' bb') := hD
  refine lv_icmp_eq (tgt := 811) hx hb dL_law_179 (by decide) (fun _ => ?_) (fun hdif => absurd (by rw [show rC = _ from hp1, show rM = _ from hp2]; exact (inv_line hinv a1 a2).1) hdif)
  exact kk _ _ _ _ _ _ _ _ _ _ _ _ _ _ _ _ _ _ _ _ _ _ _ _ _ _ _ _ _ _ _ _ _ _ _ _ _ _ _ _ _ _ _ _ _ _ _ _ _ _ _ _ _ _ _ _ _ _ _ H locs (inv_line hinv a1 a2).2 hP hD hS
set_option maxHeartbeats 4000000 in
set_option maxRecDepth 100000 in
theorem law_node (C0 : lw_At p s m meth c b L xv) (hL : L ≤ 3584) (hi : i + 7 ≤ L) (hK : va_K D vwCl (aT cI cJ) s) (hN : NW s) {a1 a2 a3 : Int32} (h1 : xv (nI i + nI 1).toNatClampNeg = a1) (h2 : xv (nI i + nI 2).toNatClampNeg = a2) (h3 : xv (nI i + nI 3).toNatClampNeg = a3) (hinv : INV nn mm wo pr ne en ke ow pl bd sq wx wy wt nn' mm' ke' bd' sq' en' ne' wo' pr' ow' pl' wa') (hP : va_P D vwCl (lawW cI cJ fn nt aw ap an ae pu ao al co se pv av wya kp ch ac bo ax ay az ab af ag mo me mj mw mp mu ml mq m1 m2 m3 m4 m5 m6 m7 m8 nn mm wo pr ne en ke ow pl bd x xs bs kf ov ln ba op sh ec sq xb wx wy wt nn' mm' ke' bd' sq' fi' gu' le' cs' bA' oV' lk' sp' bs' bo' su' sl' lo' sh' en' ne' wo' pr' ow' pl' wa' tr' fa' ga' la' bz' pz' kz' bb') H) (hD : va_D (fun q : Nat => s.heap.size ≤ q) (lawW cI cJ fn nt aw ap an ae pu ao al co se pv av wya kp ch ac bo ax ay az ab af ag mo me mj mw mp mu ml mq m1 m2 m3 m4 m5 m6 m7 m8 nn mm wo pr ne en ke ow pl bd x xs bs kf ov ln ba op sh ec sq xb wx wy wt nn' mm' ke' bd' sq' fi' gu' le' cs' bA' oV' lk' sp' bs' bo' su' sl' lo' sh' en' ne' wo' pr' ow' pl' wa' tr' fa' ga' la' bz' pz' kz' bb')) (hS : va_S (fun q : Nat => s.heap.size ≤ q) s.heap H locs) (hl : lv_has ls 4 [(0, .ref b), (1, .ref fn), (2, .ref mo), (3, .int (nI i))]) (kk : LawGo p l e s m below meth c b D cI cJ fn nt aw ap an ae pu ao al co se pv av wya kp ch ac bo ax ay az ab af ag mo me mj mw mp mu ml mq m1 m2 m3 m4 m5 m6 m7 m8 ls) : W p l e room_1 s m #[Value.ref b] below meth c H locs 40 5473 (lw_Z below #[Value.ref b] s) (F0 m 184 ls []) := by
  obtain ⟨hx, hb, hr, hml, hown, hts0, hX, hbl0, hlocks, hgv⟩ := id C0
  have hown : s.vm.findClass RL = some m.cls := hown
  have hb : c.code = cL_law := hb
  have hts : ∀ w ∈ wsL_law, w.before #[Value.ref b] s = true := fun w hw => hts0 w (wsL_law_in w hw)
  have hbA : ¬ (fun q : Nat => s.heap.size ≤ q) b := Nat.not_le.mpr hbl0
  obtain ⟨e1, e2, e3, e4, hm24, hsq, ⟨b0, p0, q0, hs⟩, ⟨o0, hpur⟩, hke, hen, hpl, hw⟩ := id hinv
  have e1 := e1.symm
  have e2 := e2.symm
  have e3 := e3.symm
  have e4 := e4.symm
  subst e1 e2 e3 e4
  obtain ⟨hn1, hn10, hpr, hne, hwo, hbl, hpc1, hpc9, hqc1, hqc9, hbd, hb1, hb2⟩ := id hs
  obtain ⟨ho, hoN, hkeE⟩ := id hpur
  refine lv_aload_n hx hb dL_law_184 rfl (lv_at hl 1 rfl) ?_
  refine lv_aload_n hx hb dL_law_185 rfl (lv_at hl 0 rfl) ?_
  refine lv_iload_n hx hb dL_law_186 rfl (lv_at hl 3 rfl) ?_
  refine lv_iconst (v := 1) hx hb dL_law_187 (by decide) ?_
  refine lv_iadd hx hb dL_law_188 ?_
  refine law_arg hx hb hX hbl0 hbA hS hi hL (j := 1) (by decide) rfl h1 dL_law_189 ?_
  refine lv_aload_n hx hb dL_law_190 rfl (lv_at hl 0 rfl) ?_
  refine lv_iload_n hx hb dL_law_191 rfl (lv_at hl 3 rfl) ?_
  refine lv_iconst (v := 2) hx hb dL_law_192 (by decide) ?_
  refine lv_iadd hx hb dL_law_193 ?_
  refine law_arg hx hb hX hbl0 hbA hS hi hL (j := 2) (by decide) rfl h2 dL_law_194 ?_
  refine lv_aload_n hx hb dL_law_195 rfl (lv_at hl 0 rfl) ?_
  refine lv_iload_n hx hb dL_law_196 rfl (lv_at hl 3 rfl) ?_
  refine lv_iconst (v := 3) hx hb dL_law_197 (by decide) ?_
  refine lv_iadd hx hb dL_law_198 ?_
  refine law_arg hx hb hX hbl0 hbA hS hi hL (j := 3) (by decide) rfl h3 dL_law_199 ?_
  refine goMI hP hD hS (va_runV (As := [.int a1, .int a2, .int a3]) (rest := []) ⟨hx, hb, hml, hown, hts⟩ (kX6_node l D cI cJ fn nt pu al co se ch bo bd nn mm aw ap an ae wo pr a1 a2 a3 hn1 hn10) (cwV 3 hts gL_law_X6_node rfl rfl rfl kdX6_node ⟨Nat.le_of_ble_eq_true rfl, Nat.le_of_ble_eq_true rfl⟩) (preMV hK hN hP hD 0 (ci := 6) rfl rfl rfl [0, 1, 2, 3] rfl (by decide)) rfl rfl hl.1 rfl (lv_room (Nat.le_of_ble_eq_true rfl)) dL_law_200 ⟨Nat.le_of_ble_eq_true rfl, Nat.le_of_ble_eq_true rfl⟩) [0, 1, 2, 3] rfl (by decide) (fun _ => (show ([fn, nt, aw, ap] : List Nat) = [fn, nt, aw, ap] from rfl)) (fun rC u H locs hp1 hP hD hS => ?_)
  have hP : va_P D vwCl (lawW cI cJ fn nt aw ap an ae pu ao al co se pv av wya kp ch ac bo ax ay az ab af ag mo me mj mw mp mu ml mq m1 m2 m3 m4 m5 m6 m7 m8 nn mm ((nodeT (nI nn) wo pr a1 a2 a3).2.1) ((nodeT (nI nn) wo pr a1 a2 a3).2.2) ne en ke ow pl bd x xs bs kf ov ln ba op sh ec sq xb wx wy wt nn mm ke' bd sq fi' gu' le' cs' bA' oV' lk' sp' bs' bo' su' sl' lo' sh' en' ne' wo' pr' ow' pl' wa' tr' fa' ga' la' bz' pz' kz' bb') H := hP
  have hD : va_D (fun q : Nat => s.heap.size ≤ q) (lawW cI cJ fn nt aw ap an ae pu ao al co se pv av wya kp ch ac bo ax ay az ab af ag mo me mj mw mp mu ml mq m1 m2 m3 m4 m5 m6 m7 m8 nn mm ((nodeT (nI nn) wo pr a1 a2 a3).2.1) ((nodeT (nI nn) wo pr a1 a2 a3).2.2) ne en ke ow pl bd x xs bs kf ov ln ba op sh ec sq xb wx wy wt nn mm ke' bd sq fi' gu' le' cs' bA' oV' lk' sp' bs' bo' su' sl' lo' sh' en' ne' wo' pr' ow' pl' wa' tr' fa' ga' la' bz' pz' kz' bb') := hD
  refine lv_aload_n hx hb dL_law_203 rfl (lv_at hl 2 rfl) ?_
  refine lv_aload_n hx hb dL_law_204 rfl (lv_at hl 0 rfl) ?_
  refine lv_iload_n hx hb dL_law_205 rfl (lv_at hl 3 rfl) ?_
  refine lv_iconst (v := 1) hx hb dL_law_206 (by decide) ?_
  refine lv_iadd hx hb dL_law_207 ?_
  refine law_arg hx hb hX hbl0 hbA hS hi hL (j := 1) (by decide) rfl h1 dL_law_208 ?_
  refine lv_aload_n hx hb dL_law_209 rfl (lv_at hl 0 rfl) ?_
  refine lv_iload_n hx hb dL_law_210 rfl (lv_at hl 3 rfl) ?_
  refine lv_iconst (v := 2) hx hb dL_law_211 (by decide) ?_
  refine lv_iadd hx hb dL_law_212 ?_
  refine law_arg hx hb hX hbl0 hbA hS hi hL (j := 2) (by decide) rfl h2 dL_law_213 ?_
  refine lv_aload_n hx hb dL_law_214 rfl (lv_at hl 0 rfl) ?_
  refine lv_iload_n hx hb dL_law_215 rfl (lv_at hl 3 rfl) ?_
  refine lv_iconst (v := 3) hx hb dL_law_216 (by decide) ?_
  refine lv_iadd hx hb dL_law_217 ?_
  refine law_arg hx hb hX hbl0 hbA hS hi hL (j := 3) (by decide) rfl h3 dL_law_218 ?_
  refine goMI hP hD hS (va_runV (As := [.int a1, .int a2, .int a3]) (rest := [.int rC]) ⟨hx, hb, hml, hown, hts⟩ (kX7_node l D cI cJ mo nn mm me mj mw mp mu ke' bd ml sq mq fi' gu' le' cs' bA' oV' m1 m2 m3 m4 lk' sp' bs' bo' m5 m6 m7 su' sl' m8 lo' sh' wo' pr' a1 a2 a3 hn1 hn10) (cwV 3 hts gL_law_X7_node rfl rfl rfl kdX7_node ⟨Nat.le_of_ble_eq_true rfl, Nat.le_of_ble_eq_true rfl⟩) (preMV hK hN hP hD 24 (ci := 7) rfl rfl rfl [24, 27, 28] rfl (by decide)) rfl rfl hl.1 rfl (lv_room (Nat.le_of_ble_eq_true rfl)) dL_law_219 ⟨Nat.le_of_ble_eq_true rfl, Nat.le_of_ble_eq_true rfl⟩) [24, 27, 28] rfl (by decide) (fun _ => (show ([mo, mw, mp] : List Nat) = [mo, mw, mp] from rfl)) (fun rM u2 H locs hp2 hP hD hS => ?_)
  have hP : va_P D vwCl (lawW cI cJ fn nt aw ap an ae pu ao al co se pv av wya kp ch ac bo ax ay az ab af ag mo me mj mw mp mu ml mq m1 m2 m3 m4 m5 m6 m7 m8 nn mm ((nodeT (nI nn) wo pr a1 a2 a3).2.1) ((nodeT (nI nn) wo pr a1 a2 a3).2.2) ne en ke ow pl bd x xs bs kf ov ln ba op sh ec sq xb wx wy wt nn mm ke' bd sq fi' gu' le' cs' bA' oV' lk' sp' bs' bo' su' sl' lo' sh' en' ne' ((nodeR (nI nn) wo' pr' a1 a2 a3).2.1) ((nodeR (nI nn) wo' pr' a1 a2 a3).2.2) ow' pl' wa' tr' fa' ga' la' bz' pz' kz' bb') H := hP
  have hD : va_D (fun q : Nat => s.heap.size ≤ q) (lawW cI cJ fn nt aw ap an ae pu ao al co se pv av wya kp ch ac bo ax ay az ab af ag mo me mj mw mp mu ml mq m1 m2 m3 m4 m5 m6 m7 m8 nn mm ((nodeT (nI nn) wo pr a1 a2 a3).2.1) ((nodeT (nI nn) wo pr a1 a2 a3).2.2) ne en ke ow pl bd x xs bs kf ov ln ba op sh ec sq xb wx wy wt nn mm ke' bd sq fi' gu' le' cs' bA' oV' lk' sp' bs' bo' su' sl' lo' sh' en' ne' ((nodeR (nI nn) wo' pr' a1 a2 a3).2.1) ((nodeR (nI nn) wo' pr' a1 a2 a3).2.2) ow' pl' wa' tr' fa' ga' la' bz' pz' kz' bb') := hD
  refine lv_icmp_eq (tgt := 811) hx hb dL_law_222 (by decide) (fun _ => ?_) (fun hdif => absurd (by rw [show rC = _ from hp1, show rM = _ from hp2]; exact (inv_node hinv a1 a2 a3).1) hdif)
  exact kk _ _ _ _ _ _ _ _ _ _ _ _ _ _ _ _ _ _ _ _ _ _ _ _ _ _ _ _ _ _ _ _ _ _ _ _ _ _ _ _ _ _ _ _ _ _ _ _ _ _ _ _ _ _ _ _ _ _ _ H locs (inv_node hinv a1 a2 a3).2 hP hD hS
set_option maxHeartbeats 4000000 in
set_option maxRecDepth 100000 in
theorem law_purse (C0 : lw_At p s m meth c b L xv) (hL : L ≤ 3584) (hi : i + 7 ≤ L) (hK : va_K D vwCl (aT cI cJ) s) (hN : NW s) {a1 a2 : Int32} (h1 : xv (nI i + nI 1).toNatClampNeg = a1) (h2 : xv (nI i + nI 2).toNatClampNeg = a2) (hinv : INV nn mm wo pr ne en ke ow pl bd sq wx wy wt nn' mm' ke' bd' sq' en' ne' wo' pr' ow' pl' wa') (hP : va_P D vwCl (lawW cI cJ fn nt aw ap an ae pu ao al co se pv av wya kp ch ac bo ax ay az ab af ag mo me mj mw mp mu ml mq m1 m2 m3 m4 m5 m6 m7 m8 nn mm wo pr ne en ke ow pl bd x xs bs kf ov ln ba op sh ec sq xb wx wy wt nn' mm' ke' bd' sq' fi' gu' le' cs' bA' oV' lk' sp' bs' bo' su' sl' lo' sh' en' ne' wo' pr' ow' pl' wa' tr' fa' ga' la' bz' pz' kz' bb') H) (hD : va_D (fun q : Nat => s.heap.size ≤ q) (lawW cI cJ fn nt aw ap an ae pu ao al co se pv av wya kp ch ac bo ax ay az ab af ag mo me mj mw mp mu ml mq m1 m2 m3 m4 m5 m6 m7 m8 nn mm wo pr ne en ke ow pl bd x xs bs kf ov ln ba op sh ec sq xb wx wy wt nn' mm' ke' bd' sq' fi' gu' le' cs' bA' oV' lk' sp' bs' bo' su' sl' lo' sh' en' ne' wo' pr' ow' pl' wa' tr' fa' ga' la' bz' pz' kz' bb')) (hS : va_S (fun q : Nat => s.heap.size ≤ q) s.heap H locs) (hl : lv_has ls 4 [(0, .ref b), (1, .ref fn), (2, .ref mo), (3, .int (nI i))]) (kk : LawGo p l e s m below meth c b D cI cJ fn nt aw ap an ae pu ao al co se pv av wya kp ch ac bo ax ay az ab af ag mo me mj mw mp mu ml mq m1 m2 m3 m4 m5 m6 m7 m8 ls) : W p l e room_1 s m #[Value.ref b] below meth c H locs 40 5473 (lw_Z below #[Value.ref b] s) (F0 m 227 ls []) := by
  obtain ⟨hx, hb, hr, hml, hown, hts0, hX, hbl0, hlocks, hgv⟩ := id C0
  have hown : s.vm.findClass RL = some m.cls := hown
  have hb : c.code = cL_law := hb
  have hts : ∀ w ∈ wsL_law, w.before #[Value.ref b] s = true := fun w hw => hts0 w (wsL_law_in w hw)
  have hbA : ¬ (fun q : Nat => s.heap.size ≤ q) b := Nat.not_le.mpr hbl0
  obtain ⟨e1, e2, e3, e4, hm24, hsq, ⟨b0, p0, q0, hs⟩, ⟨o0, hpur⟩, hke, hen, hpl, hw⟩ := id hinv
  have e1 := e1.symm
  have e2 := e2.symm
  have e3 := e3.symm
  have e4 := e4.symm
  subst e1 e2 e3 e4
  obtain ⟨hn1, hn10, hpr, hne, hwo, hbl, hpc1, hpc9, hqc1, hqc9, hbd, hb1, hb2⟩ := id hs
  obtain ⟨ho, hoN, hkeE⟩ := id hpur
  refine lv_aload_n hx hb dL_law_227 rfl (lv_at hl 1 rfl) ?_
  refine lv_aload_n hx hb dL_law_228 rfl (lv_at hl 0 rfl) ?_
  refine lv_iload_n hx hb dL_law_229 rfl (lv_at hl 3 rfl) ?_
  refine lv_iconst (v := 1) hx hb dL_law_230 (by decide) ?_
  refine lv_iadd hx hb dL_law_231 ?_
  refine law_arg hx hb hX hbl0 hbA hS hi hL (j := 1) (by decide) rfl h1 dL_law_232 ?_
  refine lv_aload_n hx hb dL_law_233 rfl (lv_at hl 0 rfl) ?_
  refine lv_iload_n hx hb dL_law_234 rfl (lv_at hl 3 rfl) ?_
  refine lv_iconst (v := 2) hx hb dL_law_235 (by decide) ?_
  refine lv_iadd hx hb dL_law_236 ?_
  refine law_arg hx hb hX hbl0 hbA hS hi hL (j := 2) (by decide) rfl h2 dL_law_237 ?_
  refine goMI hP hD hS (va_runV (As := [.int a1, .int a2]) (rest := []) ⟨hx, hb, hml, hown, hts⟩ (kX6_purse l D cI cJ fn nt pu al co se ch bo bd ao ke ow a1 a2) (cwV 2 hts gL_law_X6_purse rfl rfl rfl kdX6_purse ⟨Nat.le_of_ble_eq_true rfl, Nat.le_of_ble_eq_true rfl⟩) (preMV hK hN hP hD 0 (ci := 6) rfl rfl rfl [0, 6, 7] rfl (by decide)) rfl rfl hl.1 rfl (lv_room (Nat.le_of_ble_eq_true rfl)) dL_law_238 ⟨Nat.le_of_ble_eq_true rfl, Nat.le_of_ble_eq_true rfl⟩) [0, 6, 7] rfl (by decide) (fun _ => (show ([fn, pu, ao] : List Nat) = [fn, pu, ao] from rfl)) (fun rC u H locs hp1 hP hD hS => ?_)
  have hP : va_P D vwCl (lawW cI cJ fn nt aw ap an ae pu ao al co se pv av wya kp ch ac bo ax ay az ab af ag mo me mj mw mp mu ml mq m1 m2 m3 m4 m5 m6 m7 m8 nn mm wo pr ne en ke ((purseT ow a1 a2).2) pl bd x xs bs kf ov ln ba op sh ec sq xb wx wy wt nn mm ke' bd sq fi' gu' le' cs' bA' oV' lk' sp' bs' bo' su' sl' lo' sh' en' ne' wo' pr' ow' pl' wa' tr' fa' ga' la' bz' pz' kz' bb') H := hP
  have hD : va_D (fun q : Nat => s.heap.size ≤ q) (lawW cI cJ fn nt aw ap an ae pu ao al co se pv av wya kp ch ac bo ax ay az ab af ag mo me mj mw mp mu ml mq m1 m2 m3 m4 m5 m6 m7 m8 nn mm wo pr ne en ke ((purseT ow a1 a2).2) pl bd x xs bs kf ov ln ba op sh ec sq xb wx wy wt nn mm ke' bd sq fi' gu' le' cs' bA' oV' lk' sp' bs' bo' su' sl' lo' sh' en' ne' wo' pr' ow' pl' wa' tr' fa' ga' la' bz' pz' kz' bb') := hD
  refine lv_aload_n hx hb dL_law_241 rfl (lv_at hl 2 rfl) ?_
  refine lv_aload_n hx hb dL_law_242 rfl (lv_at hl 0 rfl) ?_
  refine lv_iload_n hx hb dL_law_243 rfl (lv_at hl 3 rfl) ?_
  refine lv_iconst (v := 1) hx hb dL_law_244 (by decide) ?_
  refine lv_iadd hx hb dL_law_245 ?_
  refine law_arg hx hb hX hbl0 hbA hS hi hL (j := 1) (by decide) rfl h1 dL_law_246 ?_
  refine lv_aload_n hx hb dL_law_247 rfl (lv_at hl 0 rfl) ?_
  refine lv_iload_n hx hb dL_law_248 rfl (lv_at hl 3 rfl) ?_
  refine lv_iconst (v := 2) hx hb dL_law_249 (by decide) ?_
  refine lv_iadd hx hb dL_law_250 ?_
  refine law_arg hx hb hX hbl0 hbA hS hi hL (j := 2) (by decide) rfl h2 dL_law_251 ?_
  refine goMI hP hD hS (va_runV (As := [.int a1, .int a2]) (rest := [.int rC]) ⟨hx, hb, hml, hown, hts⟩ (kX7_purse l D cI cJ mo nn mm me mj mw mp mu ke' bd ml sq mq fi' gu' le' cs' bA' oV' m1 m2 m3 m4 lk' sp' bs' bo' m5 m6 m7 su' sl' m8 lo' sh' ow' a1 a2) (cwV 2 hts gL_law_X7_purse rfl rfl rfl kdX7_purse ⟨Nat.le_of_ble_eq_true rfl, Nat.le_of_ble_eq_true rfl⟩) (preMV hK hN hP hD 24 (ci := 7) rfl rfl rfl [24, 29] rfl (by decide)) rfl rfl hl.1 rfl (lv_room (Nat.le_of_ble_eq_true rfl)) dL_law_252 ⟨Nat.le_of_ble_eq_true rfl, Nat.le_of_ble_eq_true rfl⟩) [24, 29] rfl (by decide) (fun _ => (show ([mo, mu] : List Nat) = [mo, mu] from rfl)) (fun rM u2 H locs hp2 hP hD hS => ?_)
  have hP : va_P D vwCl (lawW cI cJ fn nt aw ap an ae pu ao al co se pv av wya kp ch ac bo ax ay az ab af ag mo me mj mw mp mu ml mq m1 m2 m3 m4 m5 m6 m7 m8 nn mm wo pr ne en ke ((purseT ow a1 a2).2) pl bd x xs bs kf ov ln ba op sh ec sq xb wx wy wt nn mm ke' bd sq fi' gu' le' cs' bA' oV' lk' sp' bs' bo' su' sl' lo' sh' en' ne' wo' pr' ((purseR ow' a1 a2).2) pl' wa' tr' fa' ga' la' bz' pz' kz' bb') H := hP
  have hD : va_D (fun q : Nat => s.heap.size ≤ q) (lawW cI cJ fn nt aw ap an ae pu ao al co se pv av wya kp ch ac bo ax ay az ab af ag mo me mj mw mp mu ml mq m1 m2 m3 m4 m5 m6 m7 m8 nn mm wo pr ne en ke ((purseT ow a1 a2).2) pl bd x xs bs kf ov ln ba op sh ec sq xb wx wy wt nn mm ke' bd sq fi' gu' le' cs' bA' oV' lk' sp' bs' bo' su' sl' lo' sh' en' ne' wo' pr' ((purseR ow' a1 a2).2) pl' wa' tr' fa' ga' la' bz' pz' kz' bb') := hD
  refine lv_icmp_eq (tgt := 811) hx hb dL_law_255 (by decide) (fun _ => ?_) (fun hdif => absurd (by rw [show rC = _ from hp1, show rM = _ from hp2]; exact (inv_purse hinv a1 a2).1) hdif)
  exact kk _ _ _ _ _ _ _ _ _ _ _ _ _ _ _ _ _ _ _ _ _ _ _ _ _ _ _ _ _ _ _ _ _ _ _ _ _ _ _ _ _ _ _ _ _ _ _ _ _ _ _ _ _ _ _ _ _ _ _ H locs (inv_purse hinv a1 a2).2 hP hD hS
set_option maxHeartbeats 4000000 in
set_option maxRecDepth 100000 in
theorem law_rule (C0 : lw_At p s m meth c b L xv) (hL : L ≤ 3584) (hi : i + 7 ≤ L) (hK : va_K D vwCl (aT cI cJ) s) (hN : NW s) {a1 a2 : Int32} (h1 : xv (nI i + nI 1).toNatClampNeg = a1) (h2 : xv (nI i + nI 2).toNatClampNeg = a2) (hinv : INV nn mm wo pr ne en ke ow pl bd sq wx wy wt nn' mm' ke' bd' sq' en' ne' wo' pr' ow' pl' wa') (hP : va_P D vwCl (lawW cI cJ fn nt aw ap an ae pu ao al co se pv av wya kp ch ac bo ax ay az ab af ag mo me mj mw mp mu ml mq m1 m2 m3 m4 m5 m6 m7 m8 nn mm wo pr ne en ke ow pl bd x xs bs kf ov ln ba op sh ec sq xb wx wy wt nn' mm' ke' bd' sq' fi' gu' le' cs' bA' oV' lk' sp' bs' bo' su' sl' lo' sh' en' ne' wo' pr' ow' pl' wa' tr' fa' ga' la' bz' pz' kz' bb') H) (hD : va_D (fun q : Nat => s.heap.size ≤ q) (lawW cI cJ fn nt aw ap an ae pu ao al co se pv av wya kp ch ac bo ax ay az ab af ag mo me mj mw mp mu ml mq m1 m2 m3 m4 m5 m6 m7 m8 nn mm wo pr ne en ke ow pl bd x xs bs kf ov ln ba op sh ec sq xb wx wy wt nn' mm' ke' bd' sq' fi' gu' le' cs' bA' oV' lk' sp' bs' bo' su' sl' lo' sh' en' ne' wo' pr' ow' pl' wa' tr' fa' ga' la' bz' pz' kz' bb')) (hS : va_S (fun q : Nat => s.heap.size ≤ q) s.heap H locs) (hl : lv_has ls 4 [(0, .ref b), (1, .ref fn), (2, .ref mo), (3, .int (nI i))]) (kk : LawGo p l e s m below meth c b D cI cJ fn nt aw ap an ae pu ao al co se pv av wya kp ch ac bo ax ay az ab af ag mo me mj mw mp mu ml mq m1 m2 m3 m4 m5 m6 m7 m8 ls) : W p l e room_1 s m #[Value.ref b] below meth c H locs 40 5473 (lw_Z below #[Value.ref b] s) (F0 m 260 ls []) := by
  obtain ⟨hx, hb, hr, hml, hown, hts0, hX, hbl0, hlocks, hgv⟩ := id C0
  have hown : s.vm.findClass RL = some m.cls := hown
  have hb : c.code = cL_law := hb
  have hts : ∀ w ∈ wsL_law, w.before #[Value.ref b] s = true := fun w hw => hts0 w (wsL_law_in w hw)
  have hbA : ¬ (fun q : Nat => s.heap.size ≤ q) b := Nat.not_le.mpr hbl0
  obtain ⟨e1, e2, e3, e4, hm24, hsq, ⟨b0, p0, q0, hs⟩, ⟨o0, hpur⟩, hke, hen, hpl, hw⟩ := id hinv
  have e1 := e1.symm
  have e2 := e2.symm
  have e3 := e3.symm
  have e4 := e4.symm
  subst e1 e2 e3 e4
  obtain ⟨hn1, hn10, hpr, hne, hwo, hbl, hpc1, hpc9, hqc1, hqc9, hbd, hb1, hb2⟩ := id hs
  obtain ⟨ho, hoN, hkeE⟩ := id hpur
  refine lv_aload_n hx hb dL_law_260 rfl (lv_at hl 1 rfl) ?_
  refine lv_aload_n hx hb dL_law_261 rfl (lv_at hl 0 rfl) ?_
  refine lv_iload_n hx hb dL_law_262 rfl (lv_at hl 3 rfl) ?_
  refine lv_iconst (v := 1) hx hb dL_law_263 (by decide) ?_
  refine lv_iadd hx hb dL_law_264 ?_
  refine law_arg hx hb hX hbl0 hbA hS hi hL (j := 1) (by decide) rfl h1 dL_law_265 ?_
  refine lv_aload_n hx hb dL_law_266 rfl (lv_at hl 0 rfl) ?_
  refine lv_iload_n hx hb dL_law_267 rfl (lv_at hl 3 rfl) ?_
  refine lv_iconst (v := 2) hx hb dL_law_268 (by decide) ?_
  refine lv_iadd hx hb dL_law_269 ?_
  refine law_arg hx hb hX hbl0 hbA hS hi hL (j := 2) (by decide) rfl h2 dL_law_270 ?_
  refine goMI hP hD hS (va_runV (As := [.int a1, .int a2]) (rest := []) ⟨hx, hb, hml, hown, hts⟩ (kX6_rule l D cI cJ fn nt pu al co se ch bo bd ao ke a1 a2) (cwV 2 hts gL_law_X6_rule rfl rfl rfl kdX6_rule ⟨Nat.le_of_ble_eq_true rfl, Nat.le_of_ble_eq_true rfl⟩) (preMV hK hN hP hD 0 (ci := 6) rfl rfl rfl [0, 6] rfl (by decide)) rfl rfl hl.1 rfl (lv_room (Nat.le_of_ble_eq_true rfl)) dL_law_271 ⟨Nat.le_of_ble_eq_true rfl, Nat.le_of_ble_eq_true rfl⟩) [0, 6] rfl (by decide) (fun _ => (show ([fn, pu] : List Nat) = [fn, pu] from rfl)) (fun rC u H locs hp1 hP hD hS => ?_)
  have hP : va_P D vwCl (lawW cI cJ fn nt aw ap an ae pu ao al co se pv av wya kp ch ac bo ax ay az ab af ag mo me mj mw mp mu ml mq m1 m2 m3 m4 m5 m6 m7 m8 nn mm wo pr ne en ((ruleT ke bd a1 a2).2.1) ow pl ((ruleT ke bd a1 a2).2.2) x xs bs kf ov ln ba op sh ec sq xb wx wy wt nn mm ke' bd sq fi' gu' le' cs' bA' oV' lk' sp' bs' bo' su' sl' lo' sh' en' ne' wo' pr' ow' pl' wa' tr' fa' ga' la' bz' pz' kz' bb') H := hP
  have hD : va_D (fun q : Nat => s.heap.size ≤ q) (lawW cI cJ fn nt aw ap an ae pu ao al co se pv av wya kp ch ac bo ax ay az ab af ag mo me mj mw mp mu ml mq m1 m2 m3 m4 m5 m6 m7 m8 nn mm wo pr ne en ((ruleT ke bd a1 a2).2.1) ow pl ((ruleT ke bd a1 a2).2.2) x xs bs kf ov ln ba op sh ec sq xb wx wy wt nn mm ke' bd sq fi' gu' le' cs' bA' oV' lk' sp' bs' bo' su' sl' lo' sh' en' ne' wo' pr' ow' pl' wa' tr' fa' ga' la' bz' pz' kz' bb') := hD
  refine lv_aload_n hx hb dL_law_274 rfl (lv_at hl 2 rfl) ?_
  refine lv_aload_n hx hb dL_law_275 rfl (lv_at hl 0 rfl) ?_
  refine lv_iload_n hx hb dL_law_276 rfl (lv_at hl 3 rfl) ?_
  refine lv_iconst (v := 1) hx hb dL_law_277 (by decide) ?_
  refine lv_iadd hx hb dL_law_278 ?_
  refine law_arg hx hb hX hbl0 hbA hS hi hL (j := 1) (by decide) rfl h1 dL_law_279 ?_
  refine lv_aload_n hx hb dL_law_280 rfl (lv_at hl 0 rfl) ?_
  refine lv_iload_n hx hb dL_law_281 rfl (lv_at hl 3 rfl) ?_
  refine lv_iconst (v := 2) hx hb dL_law_282 (by decide) ?_
  refine lv_iadd hx hb dL_law_283 ?_
  refine law_arg hx hb hX hbl0 hbA hS hi hL (j := 2) (by decide) rfl h2 dL_law_284 ?_
  refine goMI hP hD hS (va_runV (As := [.int a1, .int a2]) (rest := [.int rC]) ⟨hx, hb, hml, hown, hts⟩ (kX7_rule l D cI cJ mo nn mm me mj mw mp mu ke' bd ml sq mq fi' gu' le' cs' bA' oV' m1 m2 m3 m4 lk' sp' bs' bo' m5 m6 m7 su' sl' m8 lo' sh' a1 a2) (cwV 2 hts gL_law_X7_rule rfl rfl rfl kdX7_rule ⟨Nat.le_of_ble_eq_true rfl, Nat.le_of_ble_eq_true rfl⟩) (preMV hK hN hP hD 24 (ci := 7) rfl rfl rfl [24] rfl (by decide)) rfl rfl hl.1 rfl (lv_room (Nat.le_of_ble_eq_true rfl)) dL_law_285 ⟨Nat.le_of_ble_eq_true rfl, Nat.le_of_ble_eq_true rfl⟩) [24] rfl (by decide) (fun _ => (show ([mo] : List Nat) = [mo] from rfl)) (fun rM u2 H locs hp2 hP hD hS => ?_)
  have hP : va_P D vwCl (lawW cI cJ fn nt aw ap an ae pu ao al co se pv av wya kp ch ac bo ax ay az ab af ag mo me mj mw mp mu ml mq m1 m2 m3 m4 m5 m6 m7 m8 nn mm wo pr ne en ((ruleT ke bd a1 a2).2.1) ow pl ((ruleT ke bd a1 a2).2.2) x xs bs kf ov ln ba op sh ec sq xb wx wy wt nn mm ((ruleM ke' bd a1 a2).2.1) ((ruleM ke' bd a1 a2).2.2) sq fi' gu' le' cs' bA' oV' lk' sp' bs' bo' su' sl' lo' sh' en' ne' wo' pr' ow' pl' wa' tr' fa' ga' la' bz' pz' kz' bb') H := hP
  have hD : va_D (fun q : Nat => s.heap.size ≤ q) (lawW cI cJ fn nt aw ap an ae pu ao al co se pv av wya kp ch ac bo ax ay az ab af ag mo me mj mw mp mu ml mq m1 m2 m3 m4 m5 m6 m7 m8 nn mm wo pr ne en ((ruleT ke bd a1 a2).2.1) ow pl ((ruleT ke bd a1 a2).2.2) x xs bs kf ov ln ba op sh ec sq xb wx wy wt nn mm ((ruleM ke' bd a1 a2).2.1) ((ruleM ke' bd a1 a2).2.2) sq fi' gu' le' cs' bA' oV' lk' sp' bs' bo' su' sl' lo' sh' en' ne' wo' pr' ow' pl' wa' tr' fa' ga' la' bz' pz' kz' bb') := hD
  refine lv_icmp_eq (tgt := 811) hx hb dL_law_288 (by decide) (fun _ => ?_) (fun hdif => absurd (by rw [show rC = _ from hp1, show rM = _ from hp2]; exact (inv_rule hinv a1 a2).1) hdif)
  exact kk _ _ _ _ _ _ _ _ _ _ _ _ _ _ _ _ _ _ _ _ _ _ _ _ _ _ _ _ _ _ _ _ _ _ _ _ _ _ _ _ _ _ _ _ _ _ _ _ _ _ _ _ _ _ _ _ _ _ _ H locs (inv_rule hinv a1 a2).2 hP hD hS
set_option maxHeartbeats 4000000 in
set_option maxRecDepth 100000 in
theorem law_count (C0 : lw_At p s m meth c b L xv) (hL : L ≤ 3584) (hi : i + 7 ≤ L) (hK : va_K D vwCl (aT cI cJ) s) (hN : NW s) {a1 : Int32} (h1 : xv (nI i + nI 1).toNatClampNeg = a1) (hinv : INV nn mm wo pr ne en ke ow pl bd sq wx wy wt nn' mm' ke' bd' sq' en' ne' wo' pr' ow' pl' wa') (hP : va_P D vwCl (lawW cI cJ fn nt aw ap an ae pu ao al co se pv av wya kp ch ac bo ax ay az ab af ag mo me mj mw mp mu ml mq m1 m2 m3 m4 m5 m6 m7 m8 nn mm wo pr ne en ke ow pl bd x xs bs kf ov ln ba op sh ec sq xb wx wy wt nn' mm' ke' bd' sq' fi' gu' le' cs' bA' oV' lk' sp' bs' bo' su' sl' lo' sh' en' ne' wo' pr' ow' pl' wa' tr' fa' ga' la' bz' pz' kz' bb') H) (hD : va_D (fun q : Nat => s.heap.size ≤ q) (lawW cI cJ fn nt aw ap an ae pu ao al co se pv av wya kp ch ac bo ax ay az ab af ag mo me mj mw mp mu ml mq m1 m2 m3 m4 m5 m6 m7 m8 nn mm wo pr ne en ke ow pl bd x xs bs kf ov ln ba op sh ec sq xb wx wy wt nn' mm' ke' bd' sq' fi' gu' le' cs' bA' oV' lk' sp' bs' bo' su' sl' lo' sh' en' ne' wo' pr' ow' pl' wa' tr' fa' ga' la' bz' pz' kz' bb')) (hS : va_S (fun q : Nat => s.heap.size ≤ q) s.heap H locs) (hl : lv_has ls 4 [(0, .ref b), (1, .ref fn), (2, .ref mo), (3, .int (nI i))]) (kk : LawGo p l e s m below meth c b D cI cJ fn nt aw ap an ae pu ao al co se pv av wya kp ch ac bo ax ay az ab af ag mo me mj mw mp mu ml mq m1 m2 m3 m4 m5 m6 m7 m8 ls) : W p l e room_1 s m #[Value.ref b] below meth c H locs 40 5473 (lw_Z below #[Value.ref b] s) (F0 m 293 ls []) := by
  obtain ⟨hx, hb, hr, hml, hown, hts0, hX, hbl0, hlocks, hgv⟩ := id C0
  have hown : s.vm.findClass RL = some m.cls := hown
  have hb : c.code = cL_law := hb
  have hts : ∀ w ∈ wsL_law, w.before #[Value.ref b] s = true := fun w hw => hts0 w (wsL_law_in w hw)
  have hbA : ¬ (fun q : Nat => s.heap.size ≤ q) b := Nat.not_le.mpr hbl0
  obtain ⟨e1, e2, e3, e4, hm24, hsq, ⟨b0, p0, q0, hs⟩, ⟨o0, hpur⟩, hke, hen, hpl, hw⟩ := id hinv
  have e1 := e1.symm
  have e2 := e2.symm
  have e3 := e3.symm
  have e4 := e4.symm
  subst e1 e2 e3 e4
  obtain ⟨hn1, hn10, hpr, hne, hwo, hbl, hpc1, hpc9, hqc1, hqc9, hbd, hb1, hb2⟩ := id hs
  obtain ⟨ho, hoN, hkeE⟩ := id hpur
  refine lv_aload_n hx hb dL_law_293 rfl (lv_at hl 1 rfl) ?_
  refine lv_aload_n hx hb dL_law_294 rfl (lv_at hl 0 rfl) ?_
  refine lv_iload_n hx hb dL_law_295 rfl (lv_at hl 3 rfl) ?_
  refine lv_iconst (v := 1) hx hb dL_law_296 (by decide) ?_
  refine lv_iadd hx hb dL_law_297 ?_
  refine law_arg hx hb hX hbl0 hbA hS hi hL (j := 1) (by decide) rfl h1 dL_law_298 ?_
  refine goRI hP hS (va_runV (As := [.int a1]) (rest := []) ⟨hx, hb, hml, hown, hts⟩ (kX6_count l D cI cJ fn nt pu al co se ch bo bd nn mm aw ap an ae wo sq xb.1 xb.2.1 ax ay az ab af ag wt a1 hsq) (cwV 1 hts gL_law_X6_count rfl rfl rfl kdX6_count ⟨Nat.le_of_ble_eq_true rfl, Nat.le_of_ble_eq_true rfl⟩) (preRV hK hN hP 0 (ci := 6) rfl rfl rfl [0, 1, 2, 17, 20] rfl) rfl rfl hl.1 rfl (lv_room (Nat.le_of_ble_eq_true rfl)) dL_law_299 ⟨Nat.le_of_ble_eq_true rfl, Nat.le_of_ble_eq_true rfl⟩) (fun H locs hP hS => ?_)
  refine lv_aload_n hx hb dL_law_302 rfl (lv_at hl 2 rfl) ?_
  refine lv_aload_n hx hb dL_law_303 rfl (lv_at hl 0 rfl) ?_
  refine lv_iload_n hx hb dL_law_304 rfl (lv_at hl 3 rfl) ?_
  refine lv_iconst (v := 1) hx hb dL_law_305 (by decide) ?_
  refine lv_iadd hx hb dL_law_306 ?_
  refine law_arg hx hb hX hbl0 hbA hS hi hL (j := 1) (by decide) rfl h1 dL_law_307 ?_
  refine goRI hP hS (va_runV (As := [.int a1]) (rest := [.int (countO nn mm wo sq wt a1)]) ⟨hx, hb, hml, hown, hts⟩ (kX7_count l D cI cJ mo nn mm me mj mw mp mu ke' bd ml sq mq fi' gu' le' cs' bA' oV' m1 m2 m3 m4 lk' sp' bs' bo' m5 m6 m7 su' sl' m8 lo' sh' wo' wa' a1 hn10 hsq) (cwV 1 hts gL_law_X7_count rfl rfl rfl kdX7_count ⟨Nat.le_of_ble_eq_true rfl, Nat.le_of_ble_eq_true rfl⟩) (preRV hK hN hP 24 (ci := 7) rfl rfl rfl [24, 27, 31] rfl) rfl rfl hl.1 rfl (lv_room (Nat.le_of_ble_eq_true rfl)) dL_law_308 ⟨Nat.le_of_ble_eq_true rfl, Nat.le_of_ble_eq_true rfl⟩) (fun H locs hP hS => ?_)
  refine lv_icmp_eq (tgt := 811) hx hb dL_law_311 (by decide) (fun _ => ?_) (fun hdif => absurd ((inv_count hinv a1)) hdif)
  exact kk _ _ _ _ _ _ _ _ _ _ _ _ _ _ _ _ _ _ _ _ _ _ _ _ _ _ _ _ _ _ _ _ _ _ _ _ _ _ _ _ _ _ _ _ _ _ _ _ _ _ _ _ _ _ _ _ _ _ _ H locs hinv hP hD hS
set_option maxHeartbeats 4000000 in
set_option maxRecDepth 100000 in
theorem law_plan (C0 : lw_At p s m meth c b L xv) (hL : L ≤ 3584) (hi : i + 7 ≤ L) (hK : va_K D vwCl (aT cI cJ) s) (hN : NW s) {a1 a2 : Int32} (h1 : xv (nI i + nI 1).toNatClampNeg = a1) (h2 : xv (nI i + nI 2).toNatClampNeg = a2) (hinv : INV nn mm wo pr ne en ke ow pl bd sq wx wy wt nn' mm' ke' bd' sq' en' ne' wo' pr' ow' pl' wa') (hP : va_P D vwCl (lawW cI cJ fn nt aw ap an ae pu ao al co se pv av wya kp ch ac bo ax ay az ab af ag mo me mj mw mp mu ml mq m1 m2 m3 m4 m5 m6 m7 m8 nn mm wo pr ne en ke ow pl bd x xs bs kf ov ln ba op sh ec sq xb wx wy wt nn' mm' ke' bd' sq' fi' gu' le' cs' bA' oV' lk' sp' bs' bo' su' sl' lo' sh' en' ne' wo' pr' ow' pl' wa' tr' fa' ga' la' bz' pz' kz' bb') H) (hD : va_D (fun q : Nat => s.heap.size ≤ q) (lawW cI cJ fn nt aw ap an ae pu ao al co se pv av wya kp ch ac bo ax ay az ab af ag mo me mj mw mp mu ml mq m1 m2 m3 m4 m5 m6 m7 m8 nn mm wo pr ne en ke ow pl bd x xs bs kf ov ln ba op sh ec sq xb wx wy wt nn' mm' ke' bd' sq' fi' gu' le' cs' bA' oV' lk' sp' bs' bo' su' sl' lo' sh' en' ne' wo' pr' ow' pl' wa' tr' fa' ga' la' bz' pz' kz' bb')) (hS : va_S (fun q : Nat => s.heap.size ≤ q) s.heap H locs) (hl : lv_has ls 4 [(0, .ref b), (1, .ref fn), (2, .ref mo), (3, .int (nI i))]) (kk : LawGo p l e s m below meth c b D cI cJ fn nt aw ap an ae pu ao al co se pv av wya kp ch ac bo ax ay az ab af ag mo me mj mw mp mu ml mq m1 m2 m3 m4 m5 m6 m7 m8 ls) : W p l e room_1 s m #[Value.ref b] below meth c H locs 40 5473 (lw_Z below #[Value.ref b] s) (F0 m 316 ls []) := by
  obtain ⟨hx, hb, hr, hml, hown, hts0, hX, hbl0, hlocks, hgv⟩ := id C0
  have hown : s.vm.findClass RL = some m.cls := hown
  have hb : c.code = cL_law := hb
  have hts : ∀ w ∈ wsL_law, w.before #[Value.ref b] s = true := fun w hw => hts0 w (wsL_law_in w hw)
  have hbA : ¬ (fun q : Nat => s.heap.size ≤ q) b := Nat.not_le.mpr hbl0
  obtain ⟨e1, e2, e3, e4, hm24, hsq, ⟨b0, p0, q0, hs⟩, ⟨o0, hpur⟩, hke, hen, hpl, hw⟩ := id hinv
  have e1 := e1.symm
  have e2 := e2.symm
  have e3 := e3.symm
  have e4 := e4.symm
  subst e1 e2 e3 e4
  obtain ⟨hn1, hn10, hpr, hne, hwo, hbl, hpc1, hpc9, hqc1, hqc9, hbd, hb1, hb2⟩ := id hs
  obtain ⟨ho, hoN, hkeE⟩ := id hpur
  refine lv_aload_n hx hb dL_law_316 rfl (lv_at hl 1 rfl) ?_
  refine lv_aload_n hx hb dL_law_317 rfl (lv_at hl 0 rfl) ?_
  refine lv_iload_n hx hb dL_law_318 rfl (lv_at hl 3 rfl) ?_
  refine lv_iconst (v := 1) hx hb dL_law_319 (by decide) ?_
  refine lv_iadd hx hb dL_law_320 ?_
  refine law_arg hx hb hX hbl0 hbA hS hi hL (j := 1) (by decide) rfl h1 dL_law_321 ?_
  refine lv_aload_n hx hb dL_law_322 rfl (lv_at hl 0 rfl) ?_
  refine lv_iload_n hx hb dL_law_323 rfl (lv_at hl 3 rfl) ?_
  refine lv_iconst (v := 2) hx hb dL_law_324 (by decide) ?_
  refine lv_iadd hx hb dL_law_325 ?_
  refine law_arg hx hb hX hbl0 hbA hS hi hL (j := 2) (by decide) rfl h2 dL_law_326 ?_
  refine goMI hP hD hS (va_runV (As := [.int a1, .int a2]) (rest := []) ⟨hx, hb, hml, hown, hts⟩ (kX6_plan l D cI cJ fn nt pu al co se ch bo bd pl a1 a2) (cwV 2 hts gL_law_X6_plan rfl rfl rfl kdX6_plan ⟨Nat.le_of_ble_eq_true rfl, Nat.le_of_ble_eq_true rfl⟩) (preMV hK hN hP hD 0 (ci := 6) rfl rfl rfl [0, 8] rfl (by decide)) rfl rfl hl.1 rfl (lv_room (Nat.le_of_ble_eq_true rfl)) dL_law_327 ⟨Nat.le_of_ble_eq_true rfl, Nat.le_of_ble_eq_true rfl⟩) [0, 8] rfl (by decide) (fun _ => (show ([fn, al] : List Nat) = [fn, al] from rfl)) (fun rC u H locs hp1 hP hD hS => ?_)
  have hP : va_P D vwCl (lawW cI cJ fn nt aw ap an ae pu ao al co se pv av wya kp ch ac bo ax ay az ab af ag mo me mj mw mp mu ml mq m1 m2 m3 m4 m5 m6 m7 m8 nn mm wo pr ne en ke ow ((planT pl a1 a2).2) bd x xs bs kf ov ln ba op sh ec sq xb wx wy wt nn mm ke' bd sq fi' gu' le' cs' bA' oV' lk' sp' bs' bo' su' sl' lo' sh' en' ne' wo' pr' ow' pl' wa' tr' fa' ga' la' bz' pz' kz' bb') H := hP
  have hD : va_D (fun q : Nat => s.heap.size ≤ q) (lawW cI cJ fn nt aw ap an ae pu ao al co se pv av wya kp ch ac bo ax ay az ab af ag mo me mj mw mp mu ml mq m1 m2 m3 m4 m5 m6 m7 m8 nn mm wo pr ne en ke ow ((planT pl a1 a2).2) bd x xs bs kf ov ln ba op sh ec sq xb wx wy wt nn mm ke' bd sq fi' gu' le' cs' bA' oV' lk' sp' bs' bo' su' sl' lo' sh' en' ne' wo' pr' ow' pl' wa' tr' fa' ga' la' bz' pz' kz' bb') := hD
  refine lv_aload_n hx hb dL_law_330 rfl (lv_at hl 2 rfl) ?_
  refine lv_aload_n hx hb dL_law_331 rfl (lv_at hl 0 rfl) ?_
  refine lv_iload_n hx hb dL_law_332 rfl (lv_at hl 3 rfl) ?_
  refine lv_iconst (v := 1) hx hb dL_law_333 (by decide) ?_
  refine lv_iadd hx hb dL_law_334 ?_
  refine law_arg hx hb hX hbl0 hbA hS hi hL (j := 1) (by decide) rfl h1 dL_law_335 ?_
  refine lv_aload_n hx hb dL_law_336 rfl (lv_at hl 0 rfl) ?_
  refine lv_iload_n hx hb dL_law_337 rfl (lv_at hl 3 rfl) ?_
  refine lv_iconst (v := 2) hx hb dL_law_338 (by decide) ?_
  refine lv_iadd hx hb dL_law_339 ?_
  refine law_arg hx hb hX hbl0 hbA hS hi hL (j := 2) (by decide) rfl h2 dL_law_340 ?_
  refine goMI hP hD hS (va_runV (As := [.int a1, .int a2]) (rest := [.int rC]) ⟨hx, hb, hml, hown, hts⟩ (kX7_plan l D cI cJ mo nn mm me mj mw mp mu ke' bd ml sq mq fi' gu' le' cs' bA' oV' m1 m2 m3 m4 lk' sp' bs' bo' m5 m6 m7 su' sl' m8 lo' sh' pl' a1 a2) (cwV 2 hts gL_law_X7_plan rfl rfl rfl kdX7_plan ⟨Nat.le_of_ble_eq_true rfl, Nat.le_of_ble_eq_true rfl⟩) (preMV hK hN hP hD 24 (ci := 7) rfl rfl rfl [24, 30] rfl (by decide)) rfl rfl hl.1 rfl (lv_room (Nat.le_of_ble_eq_true rfl)) dL_law_341 ⟨Nat.le_of_ble_eq_true rfl, Nat.le_of_ble_eq_true rfl⟩) [24, 30] rfl (by decide) (fun _ => (show ([mo, ml] : List Nat) = [mo, ml] from rfl)) (fun rM u2 H locs hp2 hP hD hS => ?_)
  have hP : va_P D vwCl (lawW cI cJ fn nt aw ap an ae pu ao al co se pv av wya kp ch ac bo ax ay az ab af ag mo me mj mw mp mu ml mq m1 m2 m3 m4 m5 m6 m7 m8 nn mm wo pr ne en ke ow ((planT pl a1 a2).2) bd x xs bs kf ov ln ba op sh ec sq xb wx wy wt nn mm ke' bd sq fi' gu' le' cs' bA' oV' lk' sp' bs' bo' su' sl' lo' sh' en' ne' wo' pr' ow' ((planR pl' a1 a2).2) wa' tr' fa' ga' la' bz' pz' kz' bb') H := hP
  have hD : va_D (fun q : Nat => s.heap.size ≤ q) (lawW cI cJ fn nt aw ap an ae pu ao al co se pv av wya kp ch ac bo ax ay az ab af ag mo me mj mw mp mu ml mq m1 m2 m3 m4 m5 m6 m7 m8 nn mm wo pr ne en ke ow ((planT pl a1 a2).2) bd x xs bs kf ov ln ba op sh ec sq xb wx wy wt nn mm ke' bd sq fi' gu' le' cs' bA' oV' lk' sp' bs' bo' su' sl' lo' sh' en' ne' wo' pr' ow' ((planR pl' a1 a2).2) wa' tr' fa' ga' la' bz' pz' kz' bb') := hD
  refine lv_icmp_eq (tgt := 811) hx hb dL_law_344 (by decide) (fun _ => ?_) (fun hdif => absurd (by rw [show rC = _ from hp1, show rM = _ from hp2]; exact (inv_plan hinv a1 a2).1) hdif)
  exact kk _ _ _ _ _ _ _ _ _ _ _ _ _ _ _ _ _ _ _ _ _ _ _ _ _ _ _ _ _ _ _ _ _ _ _ _ _ _ _ _ _ _ _ _ _ _ _ _ _ _ _ _ _ _ _ _ _ _ _ H locs (inv_plan hinv a1 a2).2 hP hD hS
set_option maxHeartbeats 4000000 in
set_option maxRecDepth 100000 in
theorem law_play (C0 : lw_At p s m meth c b L xv) (hL : L ≤ 3584) (hi : i + 7 ≤ L) (hK : va_K D vwCl (aT cI cJ) s) (hN : NW s) {a1 a2 : Int32} (h1 : xv (nI i + nI 1).toNatClampNeg = a1) (h2 : xv (nI i + nI 2).toNatClampNeg = a2) (hinv : INV nn mm wo pr ne en ke ow pl bd sq wx wy wt nn' mm' ke' bd' sq' en' ne' wo' pr' ow' pl' wa') (hP : va_P D vwCl (lawW cI cJ fn nt aw ap an ae pu ao al co se pv av wya kp ch ac bo ax ay az ab af ag mo me mj mw mp mu ml mq m1 m2 m3 m4 m5 m6 m7 m8 nn mm wo pr ne en ke ow pl bd x xs bs kf ov ln ba op sh ec sq xb wx wy wt nn' mm' ke' bd' sq' fi' gu' le' cs' bA' oV' lk' sp' bs' bo' su' sl' lo' sh' en' ne' wo' pr' ow' pl' wa' tr' fa' ga' la' bz' pz' kz' bb') H) (hD : va_D (fun q : Nat => s.heap.size ≤ q) (lawW cI cJ fn nt aw ap an ae pu ao al co se pv av wya kp ch ac bo ax ay az ab af ag mo me mj mw mp mu ml mq m1 m2 m3 m4 m5 m6 m7 m8 nn mm wo pr ne en ke ow pl bd x xs bs kf ov ln ba op sh ec sq xb wx wy wt nn' mm' ke' bd' sq' fi' gu' le' cs' bA' oV' lk' sp' bs' bo' su' sl' lo' sh' en' ne' wo' pr' ow' pl' wa' tr' fa' ga' la' bz' pz' kz' bb')) (hS : va_S (fun q : Nat => s.heap.size ≤ q) s.heap H locs) (hl : lv_has ls 4 [(0, .ref b), (1, .ref fn), (2, .ref mo), (3, .int (nI i))]) (kk : LawGo p l e s m below meth c b D cI cJ fn nt aw ap an ae pu ao al co se pv av wya kp ch ac bo ax ay az ab af ag mo me mj mw mp mu ml mq m1 m2 m3 m4 m5 m6 m7 m8 ls) : W p l e room_1 s m #[Value.ref b] below meth c H locs 40 5473 (lw_Z below #[Value.ref b] s) (F0 m 349 ls []) := by
  obtain ⟨hx, hb, hr, hml, hown, hts0, hX, hbl0, hlocks, hgv⟩ := id C0
  have hown : s.vm.findClass RL = some m.cls := hown
  have hb : c.code = cL_law := hb
  have hts : ∀ w ∈ wsL_law, w.before #[Value.ref b] s = true := fun w hw => hts0 w (wsL_law_in w hw)
  have hbA : ¬ (fun q : Nat => s.heap.size ≤ q) b := Nat.not_le.mpr hbl0
  obtain ⟨e1, e2, e3, e4, hm24, hsq, ⟨b0, p0, q0, hs⟩, ⟨o0, hpur⟩, hke, hen, hpl, hw⟩ := id hinv
  have e1 := e1.symm
  have e2 := e2.symm
  have e3 := e3.symm
  have e4 := e4.symm
  subst e1 e2 e3 e4
  obtain ⟨hn1, hn10, hpr, hne, hwo, hbl, hpc1, hpc9, hqc1, hqc9, hbd, hb1, hb2⟩ := id hs
  obtain ⟨ho, hoN, hkeE⟩ := id hpur
  obtain ⟨yC, hyC⟩ : ∃ y : Cs, y = planA (nI nn) pr ne ow pl ke a1 20 := ⟨_, rfl⟩
  obtain ⟨yM, hyM⟩ : ∃ y : Pm, y = playA nn pr' ne' ow' pl' ke' a1 30 := ⟨_, rfl⟩
  refine lv_aload_n hx hb dL_law_349 rfl (lv_at hl 1 rfl) ?_
  refine lv_aload_n hx hb dL_law_350 rfl (lv_at hl 0 rfl) ?_
  refine lv_iload_n hx hb dL_law_351 rfl (lv_at hl 3 rfl) ?_
  refine lv_iconst (v := 1) hx hb dL_law_352 (by decide) ?_
  refine lv_iadd hx hb dL_law_353 ?_
  refine law_arg hx hb hX hbl0 hbA hS hi hL (j := 1) (by decide) rfl h1 dL_law_354 ?_
  refine lv_aload_n hx hb dL_law_355 rfl (lv_at hl 0 rfl) ?_
  refine lv_iload_n hx hb dL_law_356 rfl (lv_at hl 3 rfl) ?_
  refine lv_iconst (v := 2) hx hb dL_law_357 (by decide) ?_
  refine lv_iadd hx hb dL_law_358 ?_
  refine law_arg hx hb hX hbl0 hbA hS hi hL (j := 2) (by decide) rfl h2 dL_law_359 ?_
  refine goMI hP hD hS (va_runV (As := [.int a1, .int a2]) (rest := []) ⟨hx, hb, hml, hown, hts⟩ (kX6_play l D cI cJ fn nt pu al co se ch bo bd x ao ke ow nn mm aw ap an ae wo pr ne pl a1 a2 yC hyC) (cwV 2 hts gL_law_X6_play rfl rfl rfl kdX6_play ⟨Nat.le_of_ble_eq_true rfl, Nat.le_of_ble_eq_true rfl⟩) (preMV hK hN hP hD 0 (ci := 6) rfl rfl rfl [0, 9, 6, 7, 1, 2, 3, 4, 8] rfl (by decide)) rfl rfl hl.1 rfl (lv_room (Nat.le_of_ble_eq_true rfl)) dL_law_360 ⟨Nat.le_of_ble_eq_true rfl, Nat.le_of_ble_eq_true rfl⟩) [0, 9, 6, 7, 1, 2, 3, 4, 8] rfl (by decide) (fun _ => (show ([fn, co, pu, ao, nt, aw, ap, an, al] : List Nat) = [fn, co, pu, ao, nt, aw, ap, an, al] from rfl)) (fun rC u H locs hp1 hP hD hS => ?_)
  have hP : va_P D vwCl (lawW cI cJ fn nt aw ap an ae pu ao al co se pv av wya kp ch ac bo ax ay az ab af ag mo me mj mw mp mu ml mq m1 m2 m3 m4 m5 m6 m7 m8 nn mm wo pr ne en ke ow pl bd u xs bs kf ov ln ba op sh ec sq xb wx wy wt nn mm ke' bd sq fi' gu' le' cs' bA' oV' lk' sp' bs' bo' su' sl' lo' sh' en' ne' wo' pr' ow' pl' wa' tr' fa' ga' la' bz' pz' kz' bb') H := hP
  have hD : va_D (fun q : Nat => s.heap.size ≤ q) (lawW cI cJ fn nt aw ap an ae pu ao al co se pv av wya kp ch ac bo ax ay az ab af ag mo me mj mw mp mu ml mq m1 m2 m3 m4 m5 m6 m7 m8 nn mm wo pr ne en ke ow pl bd u xs bs kf ov ln ba op sh ec sq xb wx wy wt nn mm ke' bd sq fi' gu' le' cs' bA' oV' lk' sp' bs' bo' su' sl' lo' sh' en' ne' wo' pr' ow' pl' wa' tr' fa' ga' la' bz' pz' kz' bb') := hD
  refine lv_aload_n hx hb dL_law_363 rfl (lv_at hl 2 rfl) ?_
  refine lv_aload_n hx hb dL_law_364 rfl (lv_at hl 0 rfl) ?_
  refine lv_iload_n hx hb dL_law_365 rfl (lv_at hl 3 rfl) ?_
  refine lv_iconst (v := 1) hx hb dL_law_366 (by decide) ?_
  refine lv_iadd hx hb dL_law_367 ?_
  refine law_arg hx hb hX hbl0 hbA hS hi hL (j := 1) (by decide) rfl h1 dL_law_368 ?_
  refine lv_aload_n hx hb dL_law_369 rfl (lv_at hl 0 rfl) ?_
  refine lv_iload_n hx hb dL_law_370 rfl (lv_at hl 3 rfl) ?_
  refine lv_iconst (v := 2) hx hb dL_law_371 (by decide) ?_
  refine lv_iadd hx hb dL_law_372 ?_
  refine law_arg hx hb hX hbl0 hbA hS hi hL (j := 2) (by decide) rfl h2 dL_law_373 ?_
  refine goMI hP hD hS (va_runV (As := [.int a1, .int a2]) (rest := [.int rC]) ⟨hx, hb, hml, hown, hts⟩ (kX7_play l D cI cJ mo nn mm me mj mw mp mu ke' bd ml sq mq (fi', gu', le', cs', bA', oV') m1 m2 m3 m4 lk' sp' bs' bo' m5 m6 m7 su' sl' m8 lo' sh' ne' wo' pr' ow' pl' a1 a2 yM hn10 hyM) (cwV 2 hts gL_law_X7_play rfl rfl rfl kdX7_play ⟨Nat.le_of_ble_eq_true rfl, Nat.le_of_ble_eq_true rfl⟩) (preMV hK hN hP hD 24 (ci := 7) rfl rfl rfl [24, 26, 27, 28, 29, 30] rfl (by decide)) rfl rfl hl.1 rfl (lv_room (Nat.le_of_ble_eq_true rfl)) dL_law_374 ⟨Nat.le_of_ble_eq_true rfl, Nat.le_of_ble_eq_true rfl⟩) [24, 26, 27, 28, 29, 30] rfl (by decide) (fun _ => (show ([mo, mj, mw, mp, mu, ml] : List Nat) = [mo, mj, mw, mp, mu, ml] from rfl)) (fun rM u2 H locs hp2 hP hD hS => ?_)
  have hP : va_P D vwCl (lawW cI cJ fn nt aw ap an ae pu ao al co se pv av wya kp ch ac bo ax ay az ab af ag mo me mj mw mp mu ml mq m1 m2 m3 m4 m5 m6 m7 m8 nn mm wo pr ne en ke ow pl bd u xs bs kf ov ln ba op sh ec sq xb wx wy wt nn mm ke' bd sq u2.1 u2.2.1 u2.2.2.1 u2.2.2.2.1 u2.2.2.2.2.1 u2.2.2.2.2.2 lk' sp' bs' bo' su' sl' lo' sh' en' ne' wo' pr' ow' pl' wa' tr' fa' ga' la' bz' pz' kz' bb') H := hP
  have hD : va_D (fun q : Nat => s.heap.size ≤ q) (lawW cI cJ fn nt aw ap an ae pu ao al co se pv av wya kp ch ac bo ax ay az ab af ag mo me mj mw mp mu ml mq m1 m2 m3 m4 m5 m6 m7 m8 nn mm wo pr ne en ke ow pl bd u xs bs kf ov ln ba op sh ec sq xb wx wy wt nn mm ke' bd sq u2.1 u2.2.1 u2.2.2.1 u2.2.2.2.1 u2.2.2.2.2.1 u2.2.2.2.2.2 lk' sp' bs' bo' su' sl' lo' sh' en' ne' wo' pr' ow' pl' wa' tr' fa' ga' la' bz' pz' kz' bb') := hD
  refine lv_icmp_eq (tgt := 811) hx hb dL_law_377 (by decide) (fun _ => ?_) (fun hdif => absurd (by rw [show rC = _ from hp1, show rM = _ from hp2]; exact play_ans hn10 hwo (fun hf => play_end hn10 hpr hne hbl ho hkeE hpl (fire_below hn10 hf) hyC hyM)) hdif)
  exact kk _ _ _ _ _ _ _ _ _ _ _ _ _ _ _ _ _ _ _ _ _ _ _ _ _ _ _ _ _ _ _ _ _ _ _ _ _ _ _ _ _ _ _ _ _ _ _ _ _ _ _ _ _ _ _ _ _ _ _ H locs hinv hP hD hS
set_option maxHeartbeats 4000000 in
set_option maxRecDepth 100000 in
theorem law_burns (C0 : lw_At p s m meth c b L xv) (hL : L ≤ 3584) (hi : i + 7 ≤ L) (hK : va_K D vwCl (aT cI cJ) s) (hN : NW s) {a1 a2 : Int32} (h1 : xv (nI i + nI 1).toNatClampNeg = a1) (h2 : xv (nI i + nI 2).toNatClampNeg = a2) (hinv : INV nn mm wo pr ne en ke ow pl bd sq wx wy wt nn' mm' ke' bd' sq' en' ne' wo' pr' ow' pl' wa') (hP : va_P D vwCl (lawW cI cJ fn nt aw ap an ae pu ao al co se pv av wya kp ch ac bo ax ay az ab af ag mo me mj mw mp mu ml mq m1 m2 m3 m4 m5 m6 m7 m8 nn mm wo pr ne en ke ow pl bd x xs bs kf ov ln ba op sh ec sq xb wx wy wt nn' mm' ke' bd' sq' fi' gu' le' cs' bA' oV' lk' sp' bs' bo' su' sl' lo' sh' en' ne' wo' pr' ow' pl' wa' tr' fa' ga' la' bz' pz' kz' bb') H) (hD : va_D (fun q : Nat => s.heap.size ≤ q) (lawW cI cJ fn nt aw ap an ae pu ao al co se pv av wya kp ch ac bo ax ay az ab af ag mo me mj mw mp mu ml mq m1 m2 m3 m4 m5 m6 m7 m8 nn mm wo pr ne en ke ow pl bd x xs bs kf ov ln ba op sh ec sq xb wx wy wt nn' mm' ke' bd' sq' fi' gu' le' cs' bA' oV' lk' sp' bs' bo' su' sl' lo' sh' en' ne' wo' pr' ow' pl' wa' tr' fa' ga' la' bz' pz' kz' bb')) (hS : va_S (fun q : Nat => s.heap.size ≤ q) s.heap H locs) (hl : lv_has ls 4 [(0, .ref b), (1, .ref fn), (2, .ref mo), (3, .int (nI i))]) (kk : LawGo p l e s m below meth c b D cI cJ fn nt aw ap an ae pu ao al co se pv av wya kp ch ac bo ax ay az ab af ag mo me mj mw mp mu ml mq m1 m2 m3 m4 m5 m6 m7 m8 ls) : W p l e room_1 s m #[Value.ref b] below meth c H locs 40 5473 (lw_Z below #[Value.ref b] s) (F0 m 382 ls []) := by
  obtain ⟨hx, hb, hr, hml, hown, hts0, hX, hbl0, hlocks, hgv⟩ := id C0
  have hown : s.vm.findClass RL = some m.cls := hown
  have hb : c.code = cL_law := hb
  have hts : ∀ w ∈ wsL_law, w.before #[Value.ref b] s = true := fun w hw => hts0 w (wsL_law_in w hw)
  have hbA : ¬ (fun q : Nat => s.heap.size ≤ q) b := Nat.not_le.mpr hbl0
  obtain ⟨e1, e2, e3, e4, hm24, hsq, ⟨b0, p0, q0, hs⟩, ⟨o0, hpur⟩, hke, hen, hpl, hw⟩ := id hinv
  have e1 := e1.symm
  have e2 := e2.symm
  have e3 := e3.symm
  have e4 := e4.symm
  subst e1 e2 e3 e4
  obtain ⟨hn1, hn10, hpr, hne, hwo, hbl, hpc1, hpc9, hqc1, hqc9, hbd, hb1, hb2⟩ := id hs
  obtain ⟨ho, hoN, hkeE⟩ := id hpur
  obtain ⟨yC, hyC⟩ : ∃ y : Cs, y = planA (nI nn) pr ne ow pl ke a1 a2.toNatClampNeg := ⟨_, rfl⟩
  obtain ⟨yM, hyM⟩ : ∃ y : Pm, y = playA nn pr' ne' ow' pl' ke' a1 a2.toNatClampNeg := ⟨_, rfl⟩
  refine lv_aload_n hx hb dL_law_382 rfl (lv_at hl 1 rfl) ?_
  refine lv_aload_n hx hb dL_law_383 rfl (lv_at hl 0 rfl) ?_
  refine lv_iload_n hx hb dL_law_384 rfl (lv_at hl 3 rfl) ?_
  refine lv_iconst (v := 1) hx hb dL_law_385 (by decide) ?_
  refine lv_iadd hx hb dL_law_386 ?_
  refine law_arg hx hb hX hbl0 hbA hS hi hL (j := 1) (by decide) rfl h1 dL_law_387 ?_
  refine lv_aload_n hx hb dL_law_388 rfl (lv_at hl 0 rfl) ?_
  refine lv_iload_n hx hb dL_law_389 rfl (lv_at hl 3 rfl) ?_
  refine lv_iconst (v := 2) hx hb dL_law_390 (by decide) ?_
  refine lv_iadd hx hb dL_law_391 ?_
  refine law_arg hx hb hX hbl0 hbA hS hi hL (j := 2) (by decide) rfl h2 dL_law_392 ?_
  refine goMI hP hD hS (va_runV (As := [.int a1, .int a2]) (rest := []) ⟨hx, hb, hml, hown, hts⟩ (kX6_burns l D cI cJ fn nt pu al co se ch bo bd x ao ke ow nn mm aw ap an ae pr ne pl a1 a2 yC hyC) (cwV 2 hts gL_law_X6_burns rfl rfl rfl kdX6_burns ⟨Nat.le_of_ble_eq_true rfl, Nat.le_of_ble_eq_true rfl⟩) (preMV hK hN hP hD 0 (ci := 6) rfl rfl rfl [0, 9, 6, 7, 1, 3, 4, 8] rfl (by decide)) rfl rfl hl.1 rfl (lv_room (Nat.le_of_ble_eq_true rfl)) dL_law_393 ⟨Nat.le_of_ble_eq_true rfl, Nat.le_of_ble_eq_true rfl⟩) [0, 9, 6, 7, 1, 3, 4, 8] rfl (by decide) (fun _ => (show ([fn, co, pu, ao, nt, ap, an, al] : List Nat) = [fn, co, pu, ao, nt, ap, an, al] from rfl)) (fun rC u H locs hp1 hP hD hS => ?_)
  have hP : va_P D vwCl (lawW cI cJ fn nt aw ap an ae pu ao al co se pv av wya kp ch ac bo ax ay az ab af ag mo me mj mw mp mu ml mq m1 m2 m3 m4 m5 m6 m7 m8 nn mm wo pr ne en ke ow pl bd u xs bs kf ov ln ba op sh ec sq xb wx wy wt nn mm ke' bd sq fi' gu' le' cs' bA' oV' lk' sp' bs' bo' su' sl' lo' sh' en' ne' wo' pr' ow' pl' wa' tr' fa' ga' la' bz' pz' kz' bb') H := hP
  have hD : va_D (fun q : Nat => s.heap.size ≤ q) (lawW cI cJ fn nt aw ap an ae pu ao al co se pv av wya kp ch ac bo ax ay az ab af ag mo me mj mw mp mu ml mq m1 m2 m3 m4 m5 m6 m7 m8 nn mm wo pr ne en ke ow pl bd u xs bs kf ov ln ba op sh ec sq xb wx wy wt nn mm ke' bd sq fi' gu' le' cs' bA' oV' lk' sp' bs' bo' su' sl' lo' sh' en' ne' wo' pr' ow' pl' wa' tr' fa' ga' la' bz' pz' kz' bb') := hD
  refine lv_aload_n hx hb dL_law_396 rfl (lv_at hl 2 rfl) ?_
  refine lv_aload_n hx hb dL_law_397 rfl (lv_at hl 0 rfl) ?_
  refine lv_iload_n hx hb dL_law_398 rfl (lv_at hl 3 rfl) ?_
  refine lv_iconst (v := 1) hx hb dL_law_399 (by decide) ?_
  refine lv_iadd hx hb dL_law_400 ?_
  refine law_arg hx hb hX hbl0 hbA hS hi hL (j := 1) (by decide) rfl h1 dL_law_401 ?_
  refine lv_aload_n hx hb dL_law_402 rfl (lv_at hl 0 rfl) ?_
  refine lv_iload_n hx hb dL_law_403 rfl (lv_at hl 3 rfl) ?_
  refine lv_iconst (v := 2) hx hb dL_law_404 (by decide) ?_
  refine lv_iadd hx hb dL_law_405 ?_
  refine law_arg hx hb hX hbl0 hbA hS hi hL (j := 2) (by decide) rfl h2 dL_law_406 ?_
  refine goMI hP hD hS (va_runV (As := [.int a1, .int a2]) (rest := [.int rC]) ⟨hx, hb, hml, hown, hts⟩ (kX7_burns l D cI cJ mo nn mm me mj mw mp mu ke' bd ml sq mq (fi', gu', le', cs', bA', oV') m1 m2 m3 m4 lk' sp' bs' bo' m5 m6 m7 su' sl' m8 lo' sh' ne' pr' ow' pl' a1 a2 yM hn10 hyM) (cwV 2 hts gL_law_X7_burns rfl rfl rfl kdX7_burns ⟨Nat.le_of_ble_eq_true rfl, Nat.le_of_ble_eq_true rfl⟩) (preMV hK hN hP hD 24 (ci := 7) rfl rfl rfl [24, 26, 28, 29, 30] rfl (by decide)) rfl rfl hl.1 rfl (lv_room (Nat.le_of_ble_eq_true rfl)) dL_law_407 ⟨Nat.le_of_ble_eq_true rfl, Nat.le_of_ble_eq_true rfl⟩) [24, 26, 28, 29, 30] rfl (by decide) (fun _ => (show ([mo, mj, mp, mu, ml] : List Nat) = [mo, mj, mp, mu, ml] from rfl)) (fun rM u2 H locs hp2 hP hD hS => ?_)
  have hP : va_P D vwCl (lawW cI cJ fn nt aw ap an ae pu ao al co se pv av wya kp ch ac bo ax ay az ab af ag mo me mj mw mp mu ml mq m1 m2 m3 m4 m5 m6 m7 m8 nn mm wo pr ne en ke ow pl bd u xs bs kf ov ln ba op sh ec sq xb wx wy wt nn mm ke' bd sq u2.1 u2.2.1 u2.2.2.1 u2.2.2.2.1 u2.2.2.2.2.1 u2.2.2.2.2.2 lk' sp' bs' bo' su' sl' lo' sh' en' ne' wo' pr' ow' pl' wa' tr' fa' ga' la' bz' pz' kz' bb') H := hP
  have hD : va_D (fun q : Nat => s.heap.size ≤ q) (lawW cI cJ fn nt aw ap an ae pu ao al co se pv av wya kp ch ac bo ax ay az ab af ag mo me mj mw mp mu ml mq m1 m2 m3 m4 m5 m6 m7 m8 nn mm wo pr ne en ke ow pl bd u xs bs kf ov ln ba op sh ec sq xb wx wy wt nn mm ke' bd sq u2.1 u2.2.1 u2.2.2.1 u2.2.2.2.1 u2.2.2.2.2.1 u2.2.2.2.2.2 lk' sp' bs' bo' su' sl' lo' sh' en' ne' wo' pr' ow' pl' wa' tr' fa' ga' la' bz' pz' kz' bb') := hD
  refine lv_icmp_eq (tgt := 811) hx hb dL_law_410 (by decide) (fun _ => ?_) (fun hdif => absurd (by rw [show rC = _ from hp1, show rM = _ from hp2]; exact burns_ans (k := a2.toNatClampNeg) (fun hf ht => by rw [hyC, hyM]; exact play_all hn10 hpr hne hbl ho hkeE hpl (fire_below hn10 hf) _ (by obtain ⟨k, hk, e⟩ := tick20_ix ht; rw [e, nI_clamp (by omega)]; omega))) hdif)
  exact kk _ _ _ _ _ _ _ _ _ _ _ _ _ _ _ _ _ _ _ _ _ _ _ _ _ _ _ _ _ _ _ _ _ _ _ _ _ _ _ _ _ _ _ _ _ _ _ _ _ _ _ _ _ _ _ _ _ _ _ H locs hinv hP hD hS
set_option maxHeartbeats 4000000 in
set_option maxRecDepth 100000 in
theorem law_best (C0 : lw_At p s m meth c b L xv) (hL : L ≤ 3584) (hi : i + 7 ≤ L) (hK : va_K D vwCl (aT cI cJ) s) (hN : NW s) {a1 a2 : Int32} (h1 : xv (nI i + nI 1).toNatClampNeg = a1) (h2 : xv (nI i + nI 2).toNatClampNeg = a2) (hinv : INV nn mm wo pr ne en ke ow pl bd sq wx wy wt nn' mm' ke' bd' sq' en' ne' wo' pr' ow' pl' wa') (hP : va_P D vwCl (lawW cI cJ fn nt aw ap an ae pu ao al co se pv av wya kp ch ac bo ax ay az ab af ag mo me mj mw mp mu ml mq m1 m2 m3 m4 m5 m6 m7 m8 nn mm wo pr ne en ke ow pl bd x xs bs kf ov ln ba op sh ec sq xb wx wy wt nn' mm' ke' bd' sq' fi' gu' le' cs' bA' oV' lk' sp' bs' bo' su' sl' lo' sh' en' ne' wo' pr' ow' pl' wa' tr' fa' ga' la' bz' pz' kz' bb') H) (hD : va_D (fun q : Nat => s.heap.size ≤ q) (lawW cI cJ fn nt aw ap an ae pu ao al co se pv av wya kp ch ac bo ax ay az ab af ag mo me mj mw mp mu ml mq m1 m2 m3 m4 m5 m6 m7 m8 nn mm wo pr ne en ke ow pl bd x xs bs kf ov ln ba op sh ec sq xb wx wy wt nn' mm' ke' bd' sq' fi' gu' le' cs' bA' oV' lk' sp' bs' bo' su' sl' lo' sh' en' ne' wo' pr' ow' pl' wa' tr' fa' ga' la' bz' pz' kz' bb')) (hS : va_S (fun q : Nat => s.heap.size ≤ q) s.heap H locs) (hl : lv_has ls 4 [(0, .ref b), (1, .ref fn), (2, .ref mo), (3, .int (nI i))]) (kk : LawGo p l e s m below meth c b D cI cJ fn nt aw ap an ae pu ao al co se pv av wya kp ch ac bo ax ay az ab af ag mo me mj mw mp mu ml mq m1 m2 m3 m4 m5 m6 m7 m8 ls) : W p l e room_1 s m #[Value.ref b] below meth c H locs 40 5473 (lw_Z below #[Value.ref b] s) (F0 m 415 ls []) := by
  obtain ⟨hx, hb, hr, hml, hown, hts0, hX, hbl0, hlocks, hgv⟩ := id C0
  have hown : s.vm.findClass RL = some m.cls := hown
  have hb : c.code = cL_law := hb
  have hts : ∀ w ∈ wsL_law, w.before #[Value.ref b] s = true := fun w hw => hts0 w (wsL_law_in w hw)
  have hbA : ¬ (fun q : Nat => s.heap.size ≤ q) b := Nat.not_le.mpr hbl0
  obtain ⟨e1, e2, e3, e4, hm24, hsq, ⟨b0, p0, q0, hs⟩, ⟨o0, hpur⟩, hke, hen, hpl, hw⟩ := id hinv
  have e1 := e1.symm
  have e2 := e2.symm
  have e3 := e3.symm
  have e4 := e4.symm
  subst e1 e2 e3 e4
  obtain ⟨hn1, hn10, hpr, hne, hwo, hbl, hpc1, hpc9, hqc1, hqc9, hbd, hb1, hb2⟩ := id hs
  obtain ⟨ho, hoN, hkeE⟩ := id hpur
  obtain ⟨d, hd⟩ : ∃ d : Nat, 1 + d = 8 := ⟨7, rfl⟩
  obtain ⟨yC, hyC⟩ : ∃ y : Ss, y = seekF (nI nn) wo pr ne (va_cpy ow ov 0 0 8) ke bd (d + 1) 1 a1 0 (moneyI (va_cpy ow ov 0 0 8) ke 1 0) (0, -1, xs.2.2.1, false, xs.2.2.2.2.1, xs.2.2.2.2.2) := ⟨_, rfl⟩
  refine lv_aload_n hx hb dL_law_415 rfl (lv_at hl 1 rfl) ?_
  refine lv_aload_n hx hb dL_law_416 rfl (lv_at hl 0 rfl) ?_
  refine lv_iload_n hx hb dL_law_417 rfl (lv_at hl 3 rfl) ?_
  refine lv_iconst (v := 1) hx hb dL_law_418 (by decide) ?_
  refine lv_iadd hx hb dL_law_419 ?_
  refine law_arg hx hb hX hbl0 hbA hS hi hL (j := 1) (by decide) rfl h1 dL_law_420 ?_
  refine lv_aload_n hx hb dL_law_421 rfl (lv_at hl 0 rfl) ?_
  refine lv_iload_n hx hb dL_law_422 rfl (lv_at hl 3 rfl) ?_
  refine lv_iconst (v := 2) hx hb dL_law_423 (by decide) ?_
  refine lv_iadd hx hb dL_law_424 ?_
  refine law_arg hx hb hX hbl0 hbA hS hi hL (j := 2) (by decide) rfl h2 dL_law_425 ?_
  refine goMI hP hD hS (va_runV (As := [.int a1, .int a2]) (rest := []) ⟨hx, hb, hml, hown, hts⟩ (kX6_best l D cI cJ fn nt pu al co se ch bo bd pv xs bs wya kp av kf ov ao ke ow nn mm aw ap an ae wo pr ne d a1 a2 yC hd hyC) (cwV 2 hts gL_law_X6_best rfl rfl rfl kdX6_best ⟨Nat.le_of_ble_eq_true rfl, Nat.le_of_ble_eq_true rfl⟩) (preMV hK hN hP hD 0 (ci := 6) rfl rfl rfl [0, 10, 13, 14, 11, 12, 6, 7, 1, 2, 3, 4] rfl (by decide)) rfl rfl hl.1 rfl (lv_room (Nat.le_of_ble_eq_true rfl)) dL_law_426 ⟨Nat.le_of_ble_eq_true rfl, Nat.le_of_ble_eq_true rfl⟩) [0, 10, 13, 14, 11, 12, 6, 7, 1, 2, 3, 4] rfl (by decide) (fun _ => (show ([fn, se, wya, kp, pv, av, pu, ao, nt, aw, ap, an] : List Nat) = [fn, se, wya, kp, pv, av, pu, ao, nt, aw, ap, an] from rfl)) (fun rC u H locs hp1 hP hD hS => ?_)
  have hP : va_P D vwCl (lawW cI cJ fn nt aw ap an ae pu ao al co se pv av wya kp ch ac bo ax ay az ab af ag mo me mj mw mp mu ml mq m1 m2 m3 m4 m5 m6 m7 m8 nn mm wo pr ne en ke ow pl bd x u.1 u.2.1 u.2.2.1 u.2.2.2 ln ba op sh ec sq xb wx wy wt nn mm ke' bd sq fi' gu' le' cs' bA' oV' lk' sp' bs' bo' su' sl' lo' sh' en' ne' wo' pr' ow' pl' wa' tr' fa' ga' la' bz' pz' kz' bb') H := hP
  have hD : va_D (fun q : Nat => s.heap.size ≤ q) (lawW cI cJ fn nt aw ap an ae pu ao al co se pv av wya kp ch ac bo ax ay az ab af ag mo me mj mw mp mu ml mq m1 m2 m3 m4 m5 m6 m7 m8 nn mm wo pr ne en ke ow pl bd x u.1 u.2.1 u.2.2.1 u.2.2.2 ln ba op sh ec sq xb wx wy wt nn mm ke' bd sq fi' gu' le' cs' bA' oV' lk' sp' bs' bo' su' sl' lo' sh' en' ne' wo' pr' ow' pl' wa' tr' fa' ga' la' bz' pz' kz' bb') := hD
  refine lv_aload_n hx hb dL_law_429 rfl (lv_at hl 2 rfl) ?_
  refine lv_aload_n hx hb dL_law_430 rfl (lv_at hl 0 rfl) ?_
  refine lv_iload_n hx hb dL_law_431 rfl (lv_at hl 3 rfl) ?_
  refine lv_iconst (v := 1) hx hb dL_law_432 (by decide) ?_
  refine lv_iadd hx hb dL_law_433 ?_
  refine law_arg hx hb hX hbl0 hbA hS hi hL (j := 1) (by decide) rfl h1 dL_law_434 ?_
  refine lv_aload_n hx hb dL_law_435 rfl (lv_at hl 0 rfl) ?_
  refine lv_iload_n hx hb dL_law_436 rfl (lv_at hl 3 rfl) ?_
  refine lv_iconst (v := 2) hx hb dL_law_437 (by decide) ?_
  refine lv_iadd hx hb dL_law_438 ?_
  refine law_arg hx hb hX hbl0 hbA hS hi hL (j := 2) (by decide) rfl h2 dL_law_439 ?_
  refine goMI hP hD hS (va_runV (As := [.int a1, .int a2]) (rest := [.int rC]) ⟨hx, hb, hml, hown, hts⟩ (kX7_best l D cI cJ mo nn mm me mj mw mp mu ke' bd ml sq mq fi' gu' le' cs' bA' oV' m1 m2 m3 m4 lk' sp' bs' bo' m5 m6 m7 su' sl' m8 lo' sh' tr' fa' ga' la' bz' pz' ne' wo' pr' ow' a1 yC.2.1 yC.1 yC.2.2.2.1 yC.2.2.1 (fun t => yC.2.2.2.2.2 (t - 1)) a2 hn10 (endOK hn10 hbl) (fun hf => (seek_all hs (hpur.cpy ov) hd (fire_below hn10 hf) hyC).1)) (cwV 2 hts gL_law_X7_best rfl rfl rfl kdX7_best ⟨Nat.le_of_ble_eq_true rfl, Nat.le_of_ble_eq_true rfl⟩) (preMV hK hN hP hD 24 (ci := 7) rfl rfl rfl [24, 32, 33, 34, 35, 36, 37, 26, 27, 28, 29] rfl (by decide)) rfl rfl hl.1 rfl (lv_room (Nat.le_of_ble_eq_true rfl)) dL_law_440 ⟨Nat.le_of_ble_eq_true rfl, Nat.le_of_ble_eq_true rfl⟩) [24, 32, 33, 34, 35, 36, 37, 26, 27, 28, 29] rfl (by decide) (fun _ => (show ([mo, m1, m2, m3, m4, m5, m6, mj, mw, mp, mu] : List Nat) = [mo, m1, m2, m3, m4, m5, m6, mj, mw, mp, mu] from rfl)) (fun rM u2 H locs hp2 hP hD hS => ?_)
  have hP : va_P D vwCl (lawW cI cJ fn nt aw ap an ae pu ao al co se pv av wya kp ch ac bo ax ay az ab af ag mo me mj mw mp mu ml mq m1 m2 m3 m4 m5 m6 m7 m8 nn mm wo pr ne en ke ow pl bd x u.1 u.2.1 u.2.2.1 u.2.2.2 ln ba op sh ec sq xb wx wy wt nn mm ke' bd sq u2.1 u2.2.1 u2.2.2.1 u2.2.2.2.1 bA' oV' u2.2.2.2.2.1 u2.2.2.2.2.2.1 u2.2.2.2.2.2.2.1 u2.2.2.2.2.2.2.2.1 su' sl' lo' sh' en' ne' wo' pr' ow' pl' wa' u2.2.2.2.2.2.2.2.2.1 u2.2.2.2.2.2.2.2.2.2.1 u2.2.2.2.2.2.2.2.2.2.2.1 u2.2.2.2.2.2.2.2.2.2.2.2.1 u2.2.2.2.2.2.2.2.2.2.2.2.2.1 u2.2.2.2.2.2.2.2.2.2.2.2.2.2 kz' bb') H := hP
  have hD : va_D (fun q : Nat => s.heap.size ≤ q) (lawW cI cJ fn nt aw ap an ae pu ao al co se pv av wya kp ch ac bo ax ay az ab af ag mo me mj mw mp mu ml mq m1 m2 m3 m4 m5 m6 m7 m8 nn mm wo pr ne en ke ow pl bd x u.1 u.2.1 u.2.2.1 u.2.2.2 ln ba op sh ec sq xb wx wy wt nn mm ke' bd sq u2.1 u2.2.1 u2.2.2.1 u2.2.2.2.1 bA' oV' u2.2.2.2.2.1 u2.2.2.2.2.2.1 u2.2.2.2.2.2.2.1 u2.2.2.2.2.2.2.2.1 su' sl' lo' sh' en' ne' wo' pr' ow' pl' wa' u2.2.2.2.2.2.2.2.2.1 u2.2.2.2.2.2.2.2.2.2.1 u2.2.2.2.2.2.2.2.2.2.2.1 u2.2.2.2.2.2.2.2.2.2.2.2.1 u2.2.2.2.2.2.2.2.2.2.2.2.2.1 u2.2.2.2.2.2.2.2.2.2.2.2.2.2 kz' bb') := hD
  refine lv_icmp_eq (tgt := 811) hx hb dL_law_443 (by decide) (fun _ => ?_) (fun hdif => absurd (by rw [show rC = _ from hp1, show rM = _ from hp2]; exact best_ans) hdif)
  exact kk _ _ _ _ _ _ _ _ _ _ _ _ _ _ _ _ _ _ _ _ _ _ _ _ _ _ _ _ _ _ _ _ _ _ _ _ _ _ _ _ _ _ _ _ _ _ _ _ _ _ _ _ _ _ _ _ _ _ _ H locs hinv hP hD hS
end LAW

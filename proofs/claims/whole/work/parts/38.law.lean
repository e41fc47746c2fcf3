section LAW
variable {p : Program} {l : Launch} {e : Env} {s : State} {m : MethodId} {below : List Frame} {meth : Method} {c : Code} {b L : Nat} {xv : Nat → Int32} {D : va_G} {cI cJ : ClassId} {H : Heap} {locs : List Loc} {ls : Array Slot} {i : Nat}
variable {fn nt aw ap an ae pu ao al co se pv av wya kp ch ac bo ax ay az ab af ag mo me mj mw mp mu ml mq m1 m2 m3 m4 m5 m6 m7 m8 : Nat} {nn mm : Nat} {wo pr ne en : Row} {ke : Int32} {ow pl : Row} {bd : Int32} {x : Cs} {xs : Ss} {bs kf : Int32} {ov : Row} {ln ba op sh : Int32} {ec : Row} {sq : Nat} {xb : Bs} {wx wy wt : Row} {nn' mm' : Nat} {ke' : Bool} {bd' : Int32} {sq' : Nat} {fi' gu' le' cs' : Int32} {bA' : Bool} {oV' lk' : Int32} {sp' : Bool} {bs' bo' su' sl' lo' sh' : Int32} {en' ne' wo' pr' ow' pl' wa' tr' fa' ga' la' bz' pz' kz' bb' : Row}
set_option maxHeartbeats 4000000 in
set_option maxRecDepth 100000 in
theorem law_take (C0 : lw_At p s m meth c b L xv) (hL : L ≤ 3584) (hi : i + 7 ≤ L) (hK : va_K D vwCl (aT cI cJ) s) (hN : NW s) {a1 : Int32} (h1 : xv (nI i + nI 1).toNatClampNeg = a1) (hinv : INV nn mm wo pr ne en ke ow pl bd sq wx wy wt nn' mm' ke' bd' sq' en' ne' wo' pr' ow' pl' wa') (hP : va_P D vwCl (lawW cI cJ fn nt aw ap an ae pu ao al co se pv av wya kp ch ac bo ax ay az ab af ag mo me mj mw mp mu ml mq m1 m2 m3 m4 m5 m6 m7 m8 nn mm wo pr ne en ke ow pl bd x xs bs kf ov ln ba op sh ec sq xb wx wy wt nn' mm' ke' bd' sq' fi' gu' le' cs' bA' oV' lk' sp' bs' bo' su' sl' lo' sh' en' ne' wo' pr' ow' pl' wa' tr' fa' ga' la' bz' pz' kz' bb') H) (hD : va_D (fun q : Nat => s.heap.size ≤ q) (lawW cI cJ fn nt aw ap an ae pu ao al co se pv av wya kp ch ac bo ax ay az ab af ag mo me mj mw mp mu ml mq m1 m2 m3 m4 m5 m6 m7 m8 nn mm wo pr ne en ke ow pl bd x xs bs kf ov ln ba op sh ec sq xb wx wy wt nn' mm' ke' bd' sq' fi' gu' le' cs' bA' oV' lk' sp' bs' bo' su' sl' lo' sh' en' ne' wo' pr' ow' pl' wa' tr' fa' ga' la' bz' pz' kz' bb')) (hS : va_S (fun q : Nat => s.heap.size ≤ q) s.heap H locs) (hl : lv_has ls 4 [(0, .ref b), (1, .ref fn), (2, .ref mo), (3, .int (nI i))]) (kk : LawGo p l e s m below meth c b D cI cJ fn nt aw ap an ae pu ao al co se pv av wya kp ch ac bo ax ay az ab af ag mo me mj mw mp mu ml mq m1 m2 m3 m4 m5 m6 m7 m8 ls) : W p l e room_1 s m #[Value.ref b] below meth c H locs 40 5473 (lw_Z below #[Value.ref b] s) (F0 m 448 ls []) := by
  obtain ⟨hx, hb, hr, hml, hown, hts0, hX, hbl0, hlocks, hgv⟩ := id C0
  have hown : s.vm.findClass RL = some m.cls := hown
  have hb : c.code = cL_law := hb
  have hts : ∀ w ∈ wsL_law, w.before #[Value.ref b] s = true := fun w hw => hts0 w (wsL_law_in w hw)
  have hbA : ¬ (fun q : Nat => s.heap.size ≤ q) b := Nat.not_le.mpr hbl0
  obtain ⟨e1, e2, e3, e4, hm24, hsq, ⟨b0, p0, q0, hs⟩, ⟨o0, hpur⟩, hke, hen, hpl, hw⟩ := id hinv
  have e1 := e1.symm
  have e2 := e2.symm
  have e3 := e3.symm
  have e4 := e4.symm
  subst e1 e2 e3 e4
  obtain ⟨hn1, hn10, hpr, hne, hwo, hbl, hpc1, hpc9, hqc1, hqc9, hbd, hb1, hb2⟩ := id hs
  obtain ⟨ho, hoN, hkeE⟩ := id hpur
  obtain ⟨d, hd⟩ : ∃ d : Nat, 1 + d = 8 := ⟨7, rfl⟩
  obtain ⟨yC, hyC⟩ : ∃ y : Ss, y = seekF (nI nn) wo pr ne (va_cpy ow ov 0 0 8) ke bd (d + 1) 1 a1 0 (moneyI (va_cpy ow ov 0 0 8) ke 1 0) (0, -1, xs.2.2.1, false, xs.2.2.2.2.1, xs.2.2.2.2.2) := ⟨_, rfl⟩
  refine lv_aload_n hx hb dL_law_448 rfl (lv_at hl 1 rfl) ?_
  refine lv_aload_n hx hb dL_law_449 rfl (lv_at hl 0 rfl) ?_
  refine lv_iload_n hx hb dL_law_450 rfl (lv_at hl 3 rfl) ?_
  refine lv_iconst (v := 1) hx hb dL_law_451 (by decide) ?_
  refine lv_iadd hx hb dL_law_452 ?_
  refine law_arg hx hb hX hbl0 hbA hS hi hL (j := 1) (by decide) rfl h1 dL_law_453 ?_
  refine goMI hP hD hS (va_runV (As := [.int a1]) (rest := []) ⟨hx, hb, hml, hown, hts⟩ (kX6_take l D cI cJ fn nt pu al co se ch bo bd pv xs bs wya kp av kf ov ao ke ow nn mm aw ap an ae wo pr ne pl d a1 yC hd hyC) (cwV 1 hts gL_law_X6_take rfl rfl rfl kdX6_take ⟨Nat.le_of_ble_eq_true rfl, Nat.le_of_ble_eq_true rfl⟩) (preMV hK hN hP hD 0 (ci := 6) rfl rfl rfl [0, 10, 13, 14, 11, 12, 6, 7, 1, 2, 3, 4, 8] rfl (by decide)) rfl rfl hl.1 rfl (lv_room (Nat.le_of_ble_eq_true rfl)) dL_law_454 ⟨Nat.le_of_ble_eq_true rfl, Nat.le_of_ble_eq_true rfl⟩) [0, 10, 13, 14, 11, 12, 6, 7, 1, 2, 3, 4, 8] rfl (by decide) (fun _ => (show ([fn, se, wya, kp, pv, av, pu, ao, nt, aw, ap, an, al] : List Nat) = [fn, se, wya, kp, pv, av, pu, ao, nt, aw, ap, an, al] from rfl)) (fun rC u H locs hp1 hP hD hS => ?_)
  have hP : va_P D vwCl (lawW cI cJ fn nt aw ap an ae pu ao al co se pv av wya kp ch ac bo ax ay az ab af ag mo me mj mw mp mu ml mq m1 m2 m3 m4 m5 m6 m7 m8 nn mm wo pr ne en ke ow (if 1 ≤ a1 ∧ a1 ≤ allI (nI nn) then cpF yC.2.2.2.2.2 pl 8 else pl) bd x u.1 u.2.1 u.2.2.1 u.2.2.2 ln ba op sh ec sq xb wx wy wt nn mm ke' bd sq fi' gu' le' cs' bA' oV' lk' sp' bs' bo' su' sl' lo' sh' en' ne' wo' pr' ow' pl' wa' tr' fa' ga' la' bz' pz' kz' bb') H := hP
  have hD : va_D (fun q : Nat => s.heap.size ≤ q) (lawW cI cJ fn nt aw ap an ae pu ao al co se pv av wya kp ch ac bo ax ay az ab af ag mo me mj mw mp mu ml mq m1 m2 m3 m4 m5 m6 m7 m8 nn mm wo pr ne en ke ow (if 1 ≤ a1 ∧ a1 ≤ allI (nI nn) then cpF yC.2.2.2.2.2 pl 8 else pl) bd x u.1 u.2.1 u.2.2.1 u.2.2.2 ln ba op sh ec sq xb wx wy wt nn mm ke' bd sq fi' gu' le' cs' bA' oV' lk' sp' bs' bo' su' sl' lo' sh' en' ne' wo' pr' ow' pl' wa' tr' fa' ga' la' bz' pz' kz' bb') := hD
  refine lv_aload_n hx hb dL_law_457 rfl (lv_at hl 2 rfl) ?_
  refine lv_aload_n hx hb dL_law_458 rfl (lv_at hl 0 rfl) ?_
  refine lv_iload_n hx hb dL_law_459 rfl (lv_at hl 3 rfl) ?_
  refine lv_iconst (v := 1) hx hb dL_law_460 (by decide) ?_
  refine lv_iadd hx hb dL_law_461 ?_
  refine law_arg hx hb hX hbl0 hbA hS hi hL (j := 1) (by decide) rfl h1 dL_law_462 ?_
  refine goMI hP hD hS (va_runV (As := [.int a1]) (rest := [.int rC]) ⟨hx, hb, hml, hown, hts⟩ (kX7_take l D cI cJ mo nn mm me mj mw mp mu ke' bd ml sq mq fi' gu' le' cs' bA' oV' m1 m2 m3 m4 lk' sp' bs' bo' m5 m6 m7 su' sl' m8 lo' sh' tr' fa' ga' la' bz' pz' ne' wo' pr' ow' pl' a1 yC.2.1 yC.1 yC.2.2.2.1 yC.2.2.1 (fun t => yC.2.2.2.2.2 (t - 1)) hn10 (endOK hn10 hbl) (fun hf => (seek_all hs (hpur.cpy ov) hd (fire_below hn10 hf) hyC).1)) (cwV 1 hts gL_law_X7_take rfl rfl rfl kdX7_take ⟨Nat.le_of_ble_eq_true rfl, Nat.le_of_ble_eq_true rfl⟩) (preMV hK hN hP hD 24 (ci := 7) rfl rfl rfl [24, 32, 33, 34, 35, 36, 37, 26, 27, 28, 29, 30] rfl (by decide)) rfl rfl hl.1 rfl (lv_room (Nat.le_of_ble_eq_true rfl)) dL_law_463 ⟨Nat.le_of_ble_eq_true rfl, Nat.le_of_ble_eq_true rfl⟩) [24, 32, 33, 34, 35, 36, 37, 26, 27, 28, 29, 30] rfl (by decide) (fun _ => (show ([mo, m1, m2, m3, m4, m5, m6, mj, mw, mp, mu, ml] : List Nat) = [mo, m1, m2, m3, m4, m5, m6, mj, mw, mp, mu, ml] from rfl)) (fun rM u2 H locs hp2 hP hD hS => ?_)
  have hP : va_P D vwCl (lawW cI cJ fn nt aw ap an ae pu ao al co se pv av wya kp ch ac bo ax ay az ab af ag mo me mj mw mp mu ml mq m1 m2 m3 m4 m5 m6 m7 m8 nn mm wo pr ne en ke ow (if 1 ≤ a1 ∧ a1 ≤ allI (nI nn) then cpF yC.2.2.2.2.2 pl 8 else pl) bd x u.1 u.2.1 u.2.2.1 u.2.2.2 ln ba op sh ec sq xb wx wy wt nn mm ke' bd sq u2.1 u2.2.1 u2.2.2.1 u2.2.2.2.1 bA' oV' u2.2.2.2.2.1 u2.2.2.2.2.2.1 u2.2.2.2.2.2.2.1 u2.2.2.2.2.2.2.2.1 su' sl' lo' sh' en' ne' wo' pr' ow' u2.2.2.2.2.2.2.2.2.2.2.2.2.2.2 wa' u2.2.2.2.2.2.2.2.2.1 u2.2.2.2.2.2.2.2.2.2.1 u2.2.2.2.2.2.2.2.2.2.2.1 u2.2.2.2.2.2.2.2.2.2.2.2.1 u2.2.2.2.2.2.2.2.2.2.2.2.2.1 u2.2.2.2.2.2.2.2.2.2.2.2.2.2.1 kz' bb') H := hP
  have hD : va_D (fun q : Nat => s.heap.size ≤ q) (lawW cI cJ fn nt aw ap an ae pu ao al co se pv av wya kp ch ac bo ax ay az ab af ag mo me mj mw mp mu ml mq m1 m2 m3 m4 m5 m6 m7 m8 nn mm wo pr ne en ke ow (if 1 ≤ a1 ∧ a1 ≤ allI (nI nn) then cpF yC.2.2.2.2.2 pl 8 else pl) bd x u.1 u.2.1 u.2.2.1 u.2.2.2 ln ba op sh ec sq xb wx wy wt nn mm ke' bd sq u2.1 u2.2.1 u2.2.2.1 u2.2.2.2.1 bA' oV' u2.2.2.2.2.1 u2.2.2.2.2.2.1 u2.2.2.2.2.2.2.1 u2.2.2.2.2.2.2.2.1 su' sl' lo' sh' en' ne' wo' pr' ow' u2.2.2.2.2.2.2.2.2.2.2.2.2.2.2 wa' u2.2.2.2.2.2.2.2.2.1 u2.2.2.2.2.2.2.2.2.2.1 u2.2.2.2.2.2.2.2.2.2.2.1 u2.2.2.2.2.2.2.2.2.2.2.2.1 u2.2.2.2.2.2.2.2.2.2.2.2.2.1 u2.2.2.2.2.2.2.2.2.2.2.2.2.2.1 kz' bb') := hD
  refine lv_icmp_eq (tgt := 811) hx hb dL_law_466 (by decide) (fun _ => ?_) (fun hdif => absurd (by rw [show rC = _ from hp1, show rM = _ from hp2.1]; exact take_ans) hdif)
  exact kk _ _ _ _ _ _ _ _ _ _ _ _ _ _ _ _ _ _ _ _ _ _ _ _ _ _ _ _ _ _ _ _ _ _ _ _ _ _ _ _ _ _ _ _ _ _ _ _ _ _ _ _ _ _ _ _ _ _ _ H locs (inv_take hinv (fun hf => (seek_all hs (hpur.cpy ov) hd (fire_below hn10 hf) hyC).2.2) hp2.2) hP hD hS
set_option maxHeartbeats 4000000 in
set_option maxRecDepth 100000 in
theorem law_least (C0 : lw_At p s m meth c b L xv) (hL : L ≤ 3584) (hi : i + 7 ≤ L) (hK : va_K D vwCl (aT cI cJ) s) (hN : NW s) {a1 a2 : Int32} (h1 : xv (nI i + nI 1).toNatClampNeg = a1) (h2 : xv (nI i + nI 2).toNatClampNeg = a2) (hinv : INV nn mm wo pr ne en ke ow pl bd sq wx wy wt nn' mm' ke' bd' sq' en' ne' wo' pr' ow' pl' wa') (hP : va_P D vwCl (lawW cI cJ fn nt aw ap an ae pu ao al co se pv av wya kp ch ac bo ax ay az ab af ag mo me mj mw mp mu ml mq m1 m2 m3 m4 m5 m6 m7 m8 nn mm wo pr ne en ke ow pl bd x xs bs kf ov ln ba op sh ec sq xb wx wy wt nn' mm' ke' bd' sq' fi' gu' le' cs' bA' oV' lk' sp' bs' bo' su' sl' lo' sh' en' ne' wo' pr' ow' pl' wa' tr' fa' ga' la' bz' pz' kz' bb') H) (hD : va_D (fun q : Nat => s.heap.size ≤ q) (lawW cI cJ fn nt aw ap an ae pu ao al co se pv av wya kp ch ac bo ax ay az ab af ag mo me mj mw mp mu ml mq m1 m2 m3 m4 m5 m6 m7 m8 nn mm wo pr ne en ke ow pl bd x xs bs kf ov ln ba op sh ec sq xb wx wy wt nn' mm' ke' bd' sq' fi' gu' le' cs' bA' oV' lk' sp' bs' bo' su' sl' lo' sh' en' ne' wo' pr' ow' pl' wa' tr' fa' ga' la' bz' pz' kz' bb')) (hS : va_S (fun q : Nat => s.heap.size ≤ q) s.heap H locs) (hl : lv_has ls 4 [(0, .ref b), (1, .ref fn), (2, .ref mo), (3, .int (nI i))]) (kk : LawGo p l e s m below meth c b D cI cJ fn nt aw ap an ae pu ao al co se pv av wya kp ch ac bo ax ay az ab af ag mo me mj mw mp mu ml mq m1 m2 m3 m4 m5 m6 m7 m8 ls) : W p l e room_1 s m #[Value.ref b] below meth c H locs 40 5473 (lw_Z below #[Value.ref b] s) (F0 m 471 ls []) := by
  obtain ⟨hx, hb, hr, hml, hown, hts0, hX, hbl0, hlocks, hgv⟩ := id C0
  have hown : s.vm.findClass RL = some m.cls := hown
  have hb : c.code = cL_law := hb
  have hts : ∀ w ∈ wsL_law, w.before #[Value.ref b] s = true := fun w hw => hts0 w (wsL_law_in w hw)
  have hbA : ¬ (fun q : Nat => s.heap.size ≤ q) b := Nat.not_le.mpr hbl0
  obtain ⟨e1, e2, e3, e4, hm24, hsq, ⟨b0, p0, q0, hs⟩, ⟨o0, hpur⟩, hke, hen, hpl, hw⟩ := id hinv
  have e1 := e1.symm
  have e2 := e2.symm
  have e3 := e3.symm
  have e4 := e4.symm
  subst e1 e2 e3 e4
  obtain ⟨hn1, hn10, hpr, hne, hwo, hbl, hpc1, hpc9, hqc1, hqc9, hbd, hb1, hb2⟩ := id hs
  obtain ⟨ho, hoN, hkeE⟩ := id hpur
  obtain ⟨d, hd⟩ : ∃ d : Nat, 1 + d = 8 := ⟨7, rfl⟩
  refine lv_aload_n hx hb dL_law_471 rfl (lv_at hl 1 rfl) ?_
  refine lv_aload_n hx hb dL_law_472 rfl (lv_at hl 0 rfl) ?_
  refine lv_iload_n hx hb dL_law_473 rfl (lv_at hl 3 rfl) ?_
  refine lv_iconst (v := 1) hx hb dL_law_474 (by decide) ?_
  refine lv_iadd hx hb dL_law_475 ?_
  refine law_arg hx hb hX hbl0 hbA hS hi hL (j := 1) (by decide) rfl h1 dL_law_476 ?_
  refine lv_aload_n hx hb dL_law_477 rfl (lv_at hl 0 rfl) ?_
  refine lv_iload_n hx hb dL_law_478 rfl (lv_at hl 3 rfl) ?_
  refine lv_iconst (v := 2) hx hb dL_law_479 (by decide) ?_
  refine lv_iadd hx hb dL_law_480 ?_
  refine law_arg hx hb hX hbl0 hbA hS hi hL (j := 2) (by decide) rfl h2 dL_law_481 ?_
  refine goMI hP hD hS (va_runV (As := [.int a1, .int a2]) (rest := []) ⟨hx, hb, hml, hown, hts⟩ (kX6_least l D cI cJ fn nt pu al co se ch bo bd pv xs bs wya kp av kf ov ao ke nn mm aw ap an ae wo pr ne d a1 a2 (evL (nI nn) wo pr ne ke bd d a1) hd (fun v _ q oo => ev_any a1 v q oo)) (cwV 2 hts gL_law_X6_least rfl rfl rfl kdX6_least ⟨Nat.le_of_ble_eq_true rfl, Nat.le_of_ble_eq_true rfl⟩) (preMV hK hN hP hD 0 (ci := 6) rfl rfl rfl [0, 10, 13, 14, 11, 12, 6, 1, 2, 3, 4] rfl (by decide)) rfl rfl hl.1 rfl (lv_room (Nat.le_of_ble_eq_true rfl)) dL_law_482 ⟨Nat.le_of_ble_eq_true rfl, Nat.le_of_ble_eq_true rfl⟩) [0, 10, 13, 14, 11, 12, 6, 1, 2, 3, 4] rfl (by decide) (fun _ => (show ([fn, se, wya, kp, pv, av, pu, nt, aw, ap, an] : List Nat) = [fn, se, wya, kp, pv, av, pu, nt, aw, ap, an] from rfl)) (fun rC u H locs hp1 hP hD hS => ?_)
  have hP : va_P D vwCl (lawW cI cJ fn nt aw ap an ae pu ao al co se pv av wya kp ch ac bo ax ay az ab af ag mo me mj mw mp mu ml mq m1 m2 m3 m4 m5 m6 m7 m8 nn mm wo pr ne en ke ow pl bd x u.1 u.2.1 u.2.2.1 u.2.2.2 ln ba op sh ec sq xb wx wy wt nn mm ke' bd sq fi' gu' le' cs' bA' oV' lk' sp' bs' bo' su' sl' lo' sh' en' ne' wo' pr' ow' pl' wa' tr' fa' ga' la' bz' pz' kz' bb') H := hP
  have hD : va_D (fun q : Nat => s.heap.size ≤ q) (lawW cI cJ fn nt aw ap an ae pu ao al co se pv av wya kp ch ac bo ax ay az ab af ag mo me mj mw mp mu ml mq m1 m2 m3 m4 m5 m6 m7 m8 nn mm wo pr ne en ke ow pl bd x u.1 u.2.1 u.2.2.1 u.2.2.2 ln ba op sh ec sq xb wx wy wt nn mm ke' bd sq fi' gu' le' cs' bA' oV' lk' sp' bs' bo' su' sl' lo' sh' en' ne' wo' pr' ow' pl' wa' tr' fa' ga' la' bz' pz' kz' bb') := hD
  refine lv_aload_n hx hb dL_law_485 rfl (lv_at hl 2 rfl) ?_
  refine lv_aload_n hx hb dL_law_486 rfl (lv_at hl 0 rfl) ?_
  refine lv_iload_n hx hb dL_law_487 rfl (lv_at hl 3 rfl) ?_
  refine lv_iconst (v := 1) hx hb dL_law_488 (by decide) ?_
  refine lv_iadd hx hb dL_law_489 ?_
  refine law_arg hx hb hX hbl0 hbA hS hi hL (j := 1) (by decide) rfl h1 dL_law_490 ?_
  refine lv_aload_n hx hb dL_law_491 rfl (lv_at hl 0 rfl) ?_
  refine lv_iload_n hx hb dL_law_492 rfl (lv_at hl 3 rfl) ?_
  refine lv_iconst (v := 2) hx hb dL_law_493 (by decide) ?_
  refine lv_iadd hx hb dL_law_494 ?_
  refine law_arg hx hb hX hbl0 hbA hS hi hL (j := 2) (by decide) rfl h2 dL_law_495 ?_
  refine goMI hP hD hS (va_runV (As := [.int a1, .int a2]) (rest := [.int rC]) ⟨hx, hb, hml, hown, hts⟩ (kX7_least l D cI cJ mo nn mm me mj mw mp mu ke' bd ml sq mq fi' gu' le' cs' bA' oV' m1 m2 m3 m4 lk' sp' bs' bo' m5 m6 m7 su' sl' m8 lo' sh' tr' fa' ga' la' bz' pz' kz' ne' wo' pr' ow' a1 a2 (evL (nI nn) wo pr ne ke bd d a1) hn10 (endOK hn10 hbl) (fun hf => least_all hs hkeE hd (fire_below hn10 hf))) (cwV 2 hts gL_law_X7_least rfl rfl rfl kdX7_least ⟨Nat.le_of_ble_eq_true rfl, Nat.le_of_ble_eq_true rfl⟩) (preMV hK hN hP hD 24 (ci := 7) rfl rfl rfl [24, 32, 33, 34, 35, 36, 37, 38, 26, 27, 28, 29] rfl (by decide)) rfl rfl hl.1 rfl (lv_room (Nat.le_of_ble_eq_true rfl)) dL_law_496 ⟨Nat.le_of_ble_eq_true rfl, Nat.le_of_ble_eq_true rfl⟩) [24, 32, 33, 34, 35, 36, 37, 38, 26, 27, 28, 29] rfl (by decide) (fun _ => (show ([mo, m1, m2, m3, m4, m5, m6, m7, mj, mw, mp, mu] : List Nat) = [mo, m1, m2, m3, m4, m5, m6, m7, mj, mw, mp, mu] from rfl)) (fun rM u2 H locs hp2 hP hD hS => ?_)
  have hP : va_P D vwCl (lawW cI cJ fn nt aw ap an ae pu ao al co se pv av wya kp ch ac bo ax ay az ab af ag mo me mj mw mp mu ml mq m1 m2 m3 m4 m5 m6 m7 m8 nn mm wo pr ne en ke ow pl bd x u.1 u.2.1 u.2.2.1 u.2.2.2 ln ba op sh ec sq xb wx wy wt nn mm ke' bd sq u2.1 u2.2.1 u2.2.2.1 u2.2.2.2.1 bA' oV' u2.2.2.2.2.1 u2.2.2.2.2.2.1 u2.2.2.2.2.2.2.1 u2.2.2.2.2.2.2.2.1 su' sl' lo' sh' en' ne' wo' pr' ow' pl' wa' u2.2.2.2.2.2.2.2.2.1 u2.2.2.2.2.2.2.2.2.2.1 u2.2.2.2.2.2.2.2.2.2.2.1 u2.2.2.2.2.2.2.2.2.2.2.2.1 u2.2.2.2.2.2.2.2.2.2.2.2.2.1 u2.2.2.2.2.2.2.2.2.2.2.2.2.2.1 u2.2.2.2.2.2.2.2.2.2.2.2.2.2.2 bb') H := hP
  have hD : va_D (fun q : Nat => s.heap.size ≤ q) (lawW cI cJ fn nt aw ap an ae pu ao al co se pv av wya kp ch ac bo ax ay az ab af ag mo me mj mw mp mu ml mq m1 m2 m3 m4 m5 m6 m7 m8 nn mm wo pr ne en ke ow pl bd x u.1 u.2.1 u.2.2.1 u.2.2.2 ln ba op sh ec sq xb wx wy wt nn mm ke' bd sq u2.1 u2.2.1 u2.2.2.1 u2.2.2.2.1 bA' oV' u2.2.2.2.2.1 u2.2.2.2.2.2.1 u2.2.2.2.2.2.2.1 u2.2.2.2.2.2.2.2.1 su' sl' lo' sh' en' ne' wo' pr' ow' pl' wa' u2.2.2.2.2.2.2.2.2.1 u2.2.2.2.2.2.2.2.2.2.1 u2.2.2.2.2.2.2.2.2.2.2.1 u2.2.2.2.2.2.2.2.2.2.2.2.1 u2.2.2.2.2.2.2.2.2.2.2.2.2.1 u2.2.2.2.2.2.2.2.2.2.2.2.2.2.1 u2.2.2.2.2.2.2.2.2.2.2.2.2.2.2 bb') := hD
  refine lv_icmp_eq (tgt := 811) hx hb dL_law_499 (by decide) (fun _ => ?_) (fun hdif => absurd (by rw [show rC = _ from hp1, show rM = _ from hp2]; exact least_ans) hdif)
  exact kk _ _ _ _ _ _ _ _ _ _ _ _ _ _ _ _ _ _ _ _ _ _ _ _ _ _ _ _ _ _ _ _ _ _ _ _ _ _ _ _ _ _ _ _ _ _ _ _ _ _ _ _ _ _ _ _ _ _ _ H locs hinv hP hD hS
set_option maxHeartbeats 4000000 in
set_option maxRecDepth 100000 in
theorem law_live (C0 : lw_At p s m meth c b L xv) (hL : L ≤ 3584) (hi : i + 7 ≤ L) (hK : va_K D vwCl (aT cI cJ) s) (hN : NW s) {a1 a2 a3 : Int32} (h1 : xv (nI i + nI 1).toNatClampNeg = a1) (h2 : xv (nI i + nI 2).toNatClampNeg = a2) (h3 : xv (nI i + nI 3).toNatClampNeg = a3) (hinv : INV nn mm wo pr ne en ke ow pl bd sq wx wy wt nn' mm' ke' bd' sq' en' ne' wo' pr' ow' pl' wa') (hP : va_P D vwCl (lawW cI cJ fn nt aw ap an ae pu ao al co se pv av wya kp ch ac bo ax ay az ab af ag mo me mj mw mp mu ml mq m1 m2 m3 m4 m5 m6 m7 m8 nn mm wo pr ne en ke ow pl bd x xs bs kf ov ln ba op sh ec sq xb wx wy wt nn' mm' ke' bd' sq' fi' gu' le' cs' bA' oV' lk' sp' bs' bo' su' sl' lo' sh' en' ne' wo' pr' ow' pl' wa' tr' fa' ga' la' bz' pz' kz' bb') H) (hD : va_D (fun q : Nat => s.heap.size ≤ q) (lawW cI cJ fn nt aw ap an ae pu ao al co se pv av wya kp ch ac bo ax ay az ab af ag mo me mj mw mp mu ml mq m1 m2 m3 m4 m5 m6 m7 m8 nn mm wo pr ne en ke ow pl bd x xs bs kf ov ln ba op sh ec sq xb wx wy wt nn' mm' ke' bd' sq' fi' gu' le' cs' bA' oV' lk' sp' bs' bo' su' sl' lo' sh' en' ne' wo' pr' ow' pl' wa' tr' fa' ga' la' bz' pz' kz' bb')) (hS : va_S (fun q : Nat => s.heap.size ≤ q) s.heap H locs) (hl : lv_has ls 4 [(0, .ref b), (1, .ref fn), (2, .ref mo), (3, .int (nI i))]) (kk : LawGo p l e s m below meth c b D cI cJ fn nt aw ap an ae pu ao al co se pv av wya kp ch ac bo ax ay az ab af ag mo me mj mw mp mu ml mq m1 m2 m3 m4 m5 m6 m7 m8 ls) : W p l e room_1 s m #[Value.ref b] below meth c H locs 40 5473 (lw_Z below #[Value.ref b] s) (F0 m 504 ls []) := by
  obtain ⟨hx, hb, hr, hml, hown, hts0, hX, hbl0, hlocks, hgv⟩ := id C0
  have hown : s.vm.findClass RL = some m.cls := hown
  have hb : c.code = cL_law := hb
  have hts : ∀ w ∈ wsL_law, w.before #[Value.ref b] s = true := fun w hw => hts0 w (wsL_law_in w hw)
  have hbA : ¬ (fun q : Nat => s.heap.size ≤ q) b := Nat.not_le.mpr hbl0
  obtain ⟨e1, e2, e3, e4, hm24, hsq, ⟨b0, p0, q0, hs⟩, ⟨o0, hpur⟩, hke, hen, hpl, hw⟩ := id hinv
  have e1 := e1.symm
  have e2 := e2.symm
  have e3 := e3.symm
  have e4 := e4.symm
  subst e1 e2 e3 e4
  obtain ⟨hn1, hn10, hpr, hne, hwo, hbl, hpc1, hpc9, hqc1, hqc9, hbd, hb1, hb2⟩ := id hs
  obtain ⟨ho, hoN, hkeE⟩ := id hpur
  obtain ⟨yC, hyC⟩ : ∃ y : Cs, y = liveA wo pr ne ow ke a1 a2 20 := ⟨_, rfl⟩
  obtain ⟨yM, hyM⟩ : ∃ y : Nat × Ps, y = liveG nn wo' ne' pr' ow' ke' a1 a2 := ⟨_, rfl⟩
  refine lv_aload_n hx hb dL_law_504 rfl (lv_at hl 1 rfl) ?_
  refine lv_aload_n hx hb dL_law_505 rfl (lv_at hl 0 rfl) ?_
  refine lv_iload_n hx hb dL_law_506 rfl (lv_at hl 3 rfl) ?_
  refine lv_iconst (v := 1) hx hb dL_law_507 (by decide) ?_
  refine lv_iadd hx hb dL_law_508 ?_
  refine law_arg hx hb hX hbl0 hbA hS hi hL (j := 1) (by decide) rfl h1 dL_law_509 ?_
  refine lv_aload_n hx hb dL_law_510 rfl (lv_at hl 0 rfl) ?_
  refine lv_iload_n hx hb dL_law_511 rfl (lv_at hl 3 rfl) ?_
  refine lv_iconst (v := 2) hx hb dL_law_512 (by decide) ?_
  refine lv_iadd hx hb dL_law_513 ?_
  refine law_arg hx hb hX hbl0 hbA hS hi hL (j := 2) (by decide) rfl h2 dL_law_514 ?_
  refine lv_aload_n hx hb dL_law_515 rfl (lv_at hl 0 rfl) ?_
  refine lv_iload_n hx hb dL_law_516 rfl (lv_at hl 3 rfl) ?_
  refine lv_iconst (v := 3) hx hb dL_law_517 (by decide) ?_
  refine lv_iadd hx hb dL_law_518 ?_
  refine law_arg hx hb hX hbl0 hbA hS hi hL (j := 3) (by decide) rfl h3 dL_law_519 ?_
  refine goMI hP hD hS (va_runV (As := [.int a1, .int a2, .int a3]) (rest := []) ⟨hx, hb, hml, hown, hts⟩ (kX6_live l D cI cJ fn nt pu al co se ch bo bd x ao ke ow nn mm aw ap an ae wo pr ne a1 a2 a3 yC hyC) (cwV 3 hts gL_law_X6_live rfl rfl rfl kdX6_live ⟨Nat.le_of_ble_eq_true rfl, Nat.le_of_ble_eq_true rfl⟩) (preMV hK hN hP hD 0 (ci := 6) rfl rfl rfl [0, 9, 6, 7, 1, 2, 3, 4] rfl (by decide)) rfl rfl hl.1 rfl (lv_room (Nat.le_of_ble_eq_true rfl)) dL_law_520 ⟨Nat.le_of_ble_eq_true rfl, Nat.le_of_ble_eq_true rfl⟩) [0, 9, 6, 7, 1, 2, 3, 4] rfl (by decide) (fun _ => (show ([fn, co, pu, ao, nt, aw, ap, an] : List Nat) = [fn, co, pu, ao, nt, aw, ap, an] from rfl)) (fun rC u H locs hp1 hP hD hS => ?_)
  have hP : va_P D vwCl (lawW cI cJ fn nt aw ap an ae pu ao al co se pv av wya kp ch ac bo ax ay az ab af ag mo me mj mw mp mu ml mq m1 m2 m3 m4 m5 m6 m7 m8 nn mm wo pr ne en ke ow pl bd u xs bs kf ov ln ba op sh ec sq xb wx wy wt nn mm ke' bd sq fi' gu' le' cs' bA' oV' lk' sp' bs' bo' su' sl' lo' sh' en' ne' wo' pr' ow' pl' wa' tr' fa' ga' la' bz' pz' kz' bb') H := hP
  have hD : va_D (fun q : Nat => s.heap.size ≤ q) (lawW cI cJ fn nt aw ap an ae pu ao al co se pv av wya kp ch ac bo ax ay az ab af ag mo me mj mw mp mu ml mq m1 m2 m3 m4 m5 m6 m7 m8 nn mm wo pr ne en ke ow pl bd u xs bs kf ov ln ba op sh ec sq xb wx wy wt nn mm ke' bd sq fi' gu' le' cs' bA' oV' lk' sp' bs' bo' su' sl' lo' sh' en' ne' wo' pr' ow' pl' wa' tr' fa' ga' la' bz' pz' kz' bb') := hD
  refine lv_aload_n hx hb dL_law_523 rfl (lv_at hl 2 rfl) ?_
  refine lv_aload_n hx hb dL_law_524 rfl (lv_at hl 0 rfl) ?_
  refine lv_iload_n hx hb dL_law_525 rfl (lv_at hl 3 rfl) ?_
  refine lv_iconst (v := 1) hx hb dL_law_526 (by decide) ?_
  refine lv_iadd hx hb dL_law_527 ?_
  refine law_arg hx hb hX hbl0 hbA hS hi hL (j := 1) (by decide) rfl h1 dL_law_528 ?_
  refine lv_aload_n hx hb dL_law_529 rfl (lv_at hl 0 rfl) ?_
  refine lv_iload_n hx hb dL_law_530 rfl (lv_at hl 3 rfl) ?_
  refine lv_iconst (v := 2) hx hb dL_law_531 (by decide) ?_
  refine lv_iadd hx hb dL_law_532 ?_
  refine law_arg hx hb hX hbl0 hbA hS hi hL (j := 2) (by decide) rfl h2 dL_law_533 ?_
  refine lv_aload_n hx hb dL_law_534 rfl (lv_at hl 0 rfl) ?_
  refine lv_iload_n hx hb dL_law_535 rfl (lv_at hl 3 rfl) ?_
  refine lv_iconst (v := 3) hx hb dL_law_536 (by decide) ?_
  refine lv_iadd hx hb dL_law_537 ?_
  refine law_arg hx hb hX hbl0 hbA hS hi hL (j := 3) (by decide) rfl h3 dL_law_538 ?_
  refine goMI hP hD hS (va_runV (As := [.int a1, .int a2, .int a3]) (rest := [.int rC]) ⟨hx, hb, hml, hown, hts⟩ (kX7_live l D cI cJ mo nn mm me mj mw mp mu ke' bd ml sq mq fi' gu' le' cs' bA' oV' m1 m2 m3 m4 lk' sp' bs' bo' m5 m6 m7 su' sl' m8 lo' sh' ne' wo' pr' ow' a1 a2 a3 yM hn10 (pickOK a1 hn10) (liveOK a1 hn10 hbl) hyM) (cwV 3 hts gL_law_X7_live rfl rfl rfl kdX7_live ⟨Nat.le_of_ble_eq_true rfl, Nat.le_of_ble_eq_true rfl⟩) (preMV hK hN hP hD 24 (ci := 7) rfl rfl rfl [24, 26, 27, 28, 29] rfl (by decide)) rfl rfl hl.1 rfl (lv_room (Nat.le_of_ble_eq_true rfl)) dL_law_539 ⟨Nat.le_of_ble_eq_true rfl, Nat.le_of_ble_eq_true rfl⟩) [24, 26, 27, 28, 29] rfl (by decide) (fun _ => (show ([mo, mj, mw, mp, mu] : List Nat) = [mo, mj, mw, mp, mu] from rfl)) (fun rM u2 H locs hp2 hP hD hS => ?_)
  have hP : va_P D vwCl (lawW cI cJ fn nt aw ap an ae pu ao al co se pv av wya kp ch ac bo ax ay az ab af ag mo me mj mw mp mu ml mq m1 m2 m3 m4 m5 m6 m7 m8 nn mm wo pr ne en ke ow pl bd u xs bs kf ov ln ba op sh ec sq xb wx wy wt nn mm ke' bd sq u2.1 u2.2.1 u2.2.2.1 u2.2.2.2 bA' oV' lk' sp' bs' bo' su' sl' lo' sh' en' ne' wo' pr' ow' pl' wa' tr' fa' ga' la' bz' pz' kz' bb') H := hP
  have hD : va_D (fun q : Nat => s.heap.size ≤ q) (lawW cI cJ fn nt aw ap an ae pu ao al co se pv av wya kp ch ac bo ax ay az ab af ag mo me mj mw mp mu ml mq m1 m2 m3 m4 m5 m6 m7 m8 nn mm wo pr ne en ke ow pl bd u xs bs kf ov ln ba op sh ec sq xb wx wy wt nn mm ke' bd sq u2.1 u2.2.1 u2.2.2.1 u2.2.2.2 bA' oV' lk' sp' bs' bo' su' sl' lo' sh' en' ne' wo' pr' ow' pl' wa' tr' fa' ga' la' bz' pz' kz' bb') := hD
  refine lv_icmp_eq (tgt := 811) hx hb dL_law_542 (by decide) (fun _ => ?_) (fun hdif => absurd (by rw [show rC = _ from hp1, show rM = _ from hp2]; exact live_ans hn10 hwo (fun hr hf => live_end hn10 hr hwo hpr hne hbl ho hkeE (fire_below hn10 hf) hyC (liveG_some (liveOK a1 hn10 hbl) hyM))) hdif)
  exact kk _ _ _ _ _ _ _ _ _ _ _ _ _ _ _ _ _ _ _ _ _ _ _ _ _ _ _ _ _ _ _ _ _ _ _ _ _ _ _ _ _ _ _ _ _ _ _ _ _ _ _ _ _ _ _ _ _ _ _ H locs hinv hP hD hS
set_option maxHeartbeats 4000000 in
set_option maxRecDepth 100000 in
theorem law_share (C0 : lw_At p s m meth c b L xv) (hL : L ≤ 3584) (hi : i + 7 ≤ L) (hK : va_K D vwCl (aT cI cJ) s) (hN : NW s) {a1 a2 a3 : Int32} (h1 : xv (nI i + nI 1).toNatClampNeg = a1) (h2 : xv (nI i + nI 2).toNatClampNeg = a2) (h3 : xv (nI i + nI 3).toNatClampNeg = a3) (hinv : INV nn mm wo pr ne en ke ow pl bd sq wx wy wt nn' mm' ke' bd' sq' en' ne' wo' pr' ow' pl' wa') (hP : va_P D vwCl (lawW cI cJ fn nt aw ap an ae pu ao al co se pv av wya kp ch ac bo ax ay az ab af ag mo me mj mw mp mu ml mq m1 m2 m3 m4 m5 m6 m7 m8 nn mm wo pr ne en ke ow pl bd x xs bs kf ov ln ba op sh ec sq xb wx wy wt nn' mm' ke' bd' sq' fi' gu' le' cs' bA' oV' lk' sp' bs' bo' su' sl' lo' sh' en' ne' wo' pr' ow' pl' wa' tr' fa' ga' la' bz' pz' kz' bb') H) (hD : va_D (fun q : Nat => s.heap.size ≤ q) (lawW cI cJ fn nt aw ap an ae pu ao al co se pv av wya kp ch ac bo ax ay az ab af ag mo me mj mw mp mu ml mq m1 m2 m3 m4 m5 m6 m7 m8 nn mm wo pr ne en ke ow pl bd x xs bs kf ov ln ba op sh ec sq xb wx wy wt nn' mm' ke' bd' sq' fi' gu' le' cs' bA' oV' lk' sp' bs' bo' su' sl' lo' sh' en' ne' wo' pr' ow' pl' wa' tr' fa' ga' la' bz' pz' kz' bb')) (hS : va_S (fun q : Nat => s.heap.size ≤ q) s.heap H locs) (hl : lv_has ls 4 [(0, .ref b), (1, .ref fn), (2, .ref mo), (3, .int (nI i))]) (kk : LawGo p l e s m below meth c b D cI cJ fn nt aw ap an ae pu ao al co se pv av wya kp ch ac bo ax ay az ab af ag mo me mj mw mp mu ml mq m1 m2 m3 m4 m5 m6 m7 m8 ls) : W p l e room_1 s m #[Value.ref b] below meth c H locs 40 5473 (lw_Z below #[Value.ref b] s) (F0 m 547 ls []) := by
  obtain ⟨hx, hb, hr, hml, hown, hts0, hX, hbl0, hlocks, hgv⟩ := id C0
  have hown : s.vm.findClass RL = some m.cls := hown
  have hb : c.code = cL_law := hb
  have hts : ∀ w ∈ wsL_law, w.before #[Value.ref b] s = true := fun w hw => hts0 w (wsL_law_in w hw)
  have hbA : ¬ (fun q : Nat => s.heap.size ≤ q) b := Nat.not_le.mpr hbl0
  obtain ⟨e1, e2, e3, e4, hm24, hsq, ⟨b0, p0, q0, hs⟩, ⟨o0, hpur⟩, hke, hen, hpl, hw⟩ := id hinv
  have e1 := e1.symm
  have e2 := e2.symm
  have e3 := e3.symm
  have e4 := e4.symm
  subst e1 e2 e3 e4
  obtain ⟨hn1, hn10, hpr, hne, hwo, hbl, hpc1, hpc9, hqc1, hqc9, hbd, hb1, hb2⟩ := id hs
  obtain ⟨ho, hoN, hkeE⟩ := id hpur
  obtain ⟨d, hd⟩ : ∃ d : Nat, 1 + d = 8 := ⟨7, rfl⟩
  obtain ⟨yC, hyC⟩ : ∃ y : Cs, y = liveA wo pr ne ow ke a1 a2 20 := ⟨_, rfl⟩
  obtain ⟨yM, hyM⟩ := liveOK (wo := wo') (pr := pr') (ow := ow') (ke' := ke') a1 hn10 hbl a2
  obtain ⟨y0, hy0⟩ : ∃ y : Ss, y = seekF (nI nn) wo pr ne ow ke bd (d + 1) 1 a2 0 (moneyI ow ke 1 0) (0, -1, 0, false, fun _ => 0, fun _ => 0) := ⟨_, rfl⟩
  have hsv : savL (nI nn) wo pr ne ow ke bd d a2 = y0.2.1 := by rw [hy0]; rfl
  obtain ⟨g, hg, hans⟩ := share_full hs hpur hd hyC hyM hy0 a3
  refine lv_aload_n hx hb dL_law_547 rfl (lv_at hl 1 rfl) ?_
  refine lv_aload_n hx hb dL_law_548 rfl (lv_at hl 0 rfl) ?_
  refine lv_iload_n hx hb dL_law_549 rfl (lv_at hl 3 rfl) ?_
  refine lv_iconst (v := 1) hx hb dL_law_550 (by decide) ?_
  refine lv_iadd hx hb dL_law_551 ?_
  refine law_arg hx hb hX hbl0 hbA hS hi hL (j := 1) (by decide) rfl h1 dL_law_552 ?_
  refine lv_aload_n hx hb dL_law_553 rfl (lv_at hl 0 rfl) ?_
  refine lv_iload_n hx hb dL_law_554 rfl (lv_at hl 3 rfl) ?_
  refine lv_iconst (v := 2) hx hb dL_law_555 (by decide) ?_
  refine lv_iadd hx hb dL_law_556 ?_
  refine law_arg hx hb hX hbl0 hbA hS hi hL (j := 2) (by decide) rfl h2 dL_law_557 ?_
  refine lv_aload_n hx hb dL_law_558 rfl (lv_at hl 0 rfl) ?_
  refine lv_iload_n hx hb dL_law_559 rfl (lv_at hl 3 rfl) ?_
  refine lv_iconst (v := 3) hx hb dL_law_560 (by decide) ?_
  refine lv_iadd hx hb dL_law_561 ?_
  refine law_arg hx hb hX hbl0 hbA hS hi hL (j := 3) (by decide) rfl h3 dL_law_562 ?_
  refine goMI hP hD hS (va_runV (As := [.int a1, .int a2, .int a3]) (rest := []) ⟨hx, hb, hml, hown, hts⟩ (kX6_share l D cI cJ fn nt pu al co se ch bo bd x pv xs bs wya kp av kf ov ao ke ow nn mm aw ap an ae wo pr ne d a1 a2 a3 y0.2.1 yC hd (fun q ov => (savL_any (cpy8 ow ov) a2 _ _ _).trans hsv) hyC) (cwV 3 hts gL_law_X6_share rfl rfl rfl kdX6_share ⟨Nat.le_of_ble_eq_true rfl, Nat.le_of_ble_eq_true rfl⟩) (preMV hK hN hP hD 0 (ci := 6) rfl rfl rfl [0, 9, 10, 13, 14, 11, 12, 6, 7, 1, 2, 3, 4] rfl (by decide)) rfl rfl hl.1 rfl (lv_room (Nat.le_of_ble_eq_true rfl)) dL_law_563 ⟨Nat.le_of_ble_eq_true rfl, Nat.le_of_ble_eq_true rfl⟩) [0, 9, 10, 13, 14, 11, 12, 6, 7, 1, 2, 3, 4] rfl (by decide) (fun _ => (show ([fn, co, se, wya, kp, pv, av, pu, ao, nt, aw, ap, an] : List Nat) = [fn, co, se, wya, kp, pv, av, pu, ao, nt, aw, ap, an] from rfl)) (fun rC u H locs hp1 hP hD hS => ?_)
  have hP : va_P D vwCl (lawW cI cJ fn nt aw ap an ae pu ao al co se pv av wya kp ch ac bo ax ay az ab af ag mo me mj mw mp mu ml mq m1 m2 m3 m4 m5 m6 m7 m8 nn mm wo pr ne en ke ow pl bd u.1 u.2.1 u.2.2.1 u.2.2.2.1 u.2.2.2.2 ln ba op sh ec sq xb wx wy wt nn mm ke' bd sq fi' gu' le' cs' bA' oV' lk' sp' bs' bo' su' sl' lo' sh' en' ne' wo' pr' ow' pl' wa' tr' fa' ga' la' bz' pz' kz' bb') H := hP
  have hD : va_D (fun q : Nat => s.heap.size ≤ q) (lawW cI cJ fn nt aw ap an ae pu ao al co se pv av wya kp ch ac bo ax ay az ab af ag mo me mj mw mp mu ml mq m1 m2 m3 m4 m5 m6 m7 m8 nn mm wo pr ne en ke ow pl bd u.1 u.2.1 u.2.2.1 u.2.2.2.1 u.2.2.2.2 ln ba op sh ec sq xb wx wy wt nn mm ke' bd sq fi' gu' le' cs' bA' oV' lk' sp' bs' bo' su' sl' lo' sh' en' ne' wo' pr' ow' pl' wa' tr' fa' ga' la' bz' pz' kz' bb') := hD
  refine lv_aload_n hx hb dL_law_566 rfl (lv_at hl 2 rfl) ?_
  refine lv_aload_n hx hb dL_law_567 rfl (lv_at hl 0 rfl) ?_
  refine lv_iload_n hx hb dL_law_568 rfl (lv_at hl 3 rfl) ?_
  refine lv_iconst (v := 1) hx hb dL_law_569 (by decide) ?_
  refine lv_iadd hx hb dL_law_570 ?_
  refine law_arg hx hb hX hbl0 hbA hS hi hL (j := 1) (by decide) rfl h1 dL_law_571 ?_
  refine lv_aload_n hx hb dL_law_572 rfl (lv_at hl 0 rfl) ?_
  refine lv_iload_n hx hb dL_law_573 rfl (lv_at hl 3 rfl) ?_
  refine lv_iconst (v := 2) hx hb dL_law_574 (by decide) ?_
  refine lv_iadd hx hb dL_law_575 ?_
  refine law_arg hx hb hX hbl0 hbA hS hi hL (j := 2) (by decide) rfl h2 dL_law_576 ?_
  refine lv_aload_n hx hb dL_law_577 rfl (lv_at hl 0 rfl) ?_
  refine lv_iload_n hx hb dL_law_578 rfl (lv_at hl 3 rfl) ?_
  refine lv_iconst (v := 3) hx hb dL_law_579 (by decide) ?_
  refine lv_iadd hx hb dL_law_580 ?_
  refine law_arg hx hb hX hbl0 hbA hS hi hL (j := 3) (by decide) rfl h3 dL_law_581 ?_
  refine goMI hP hD hS (va_runV (As := [.int a1, .int a2, .int a3]) (rest := [.int rC]) ⟨hx, hb, hml, hown, hts⟩ (kX7_share l D cI cJ mo nn mm me mj mw mp mu ke' bd ml sq mq fi' gu' le' cs' bA' oV' m1 m2 m3 m4 lk' sp' bs' bo' m5 m6 m7 su' sl' m8 lo' sh' tr' fa' ga' la' bz' pz' ne' wo' pr' ow' a1 a2 a3 yM g y0.2.1 y0.1 y0.2.2.2.1 y0.2.2.1 (fun t => y0.2.2.2.2.2 (t - 1)) hn10 (pickOK a1 hn10) hyM (endOK hn10 hbl) (fun hf => (seek_all hs hpur hd (fire_below hn10 hf) hy0).1) hg) (cwV 3 hts gL_law_X7_share rfl rfl rfl kdX7_share ⟨Nat.le_of_ble_eq_true rfl, Nat.le_of_ble_eq_true rfl⟩) (preMV hK hN hP hD 24 (ci := 7) rfl rfl rfl [24, 32, 33, 34, 35, 36, 37, 26, 27, 28, 29] rfl (by decide)) rfl rfl hl.1 rfl (lv_room (Nat.le_of_ble_eq_true rfl)) dL_law_582 ⟨Nat.le_of_ble_eq_true rfl, Nat.le_of_ble_eq_true rfl⟩) [24, 32, 33, 34, 35, 36, 37, 26, 27, 28, 29] rfl (by decide) (fun _ => (show ([mo, m1, m2, m3, m4, m5, m6, mj, mw, mp, mu] : List Nat) = [mo, m1, m2, m3, m4, m5, m6, mj, mw, mp, mu] from rfl)) (fun rM u2 H locs hp2 hP hD hS => ?_)
  have hP : va_P D vwCl (lawW cI cJ fn nt aw ap an ae pu ao al co se pv av wya kp ch ac bo ax ay az ab af ag mo me mj mw mp mu ml mq m1 m2 m3 m4 m5 m6 m7 m8 nn mm wo pr ne en ke ow pl bd u.1 u.2.1 u.2.2.1 u.2.2.2.1 u.2.2.2.2 ln ba op sh ec sq xb wx wy wt nn mm ke' bd sq u2.1 u2.2.1 u2.2.2.1 u2.2.2.2.1 bA' oV' u2.2.2.2.2.1 u2.2.2.2.2.2.1 u2.2.2.2.2.2.2.1 u2.2.2.2.2.2.2.2.1 u2.2.2.2.2.2.2.2.2.2.2.2.2.2.2.1 u2.2.2.2.2.2.2.2.2.2.2.2.2.2.2.2 lo' sh' en' ne' wo' pr' ow' pl' wa' u2.2.2.2.2.2.2.2.2.1 u2.2.2.2.2.2.2.2.2.2.1 u2.2.2.2.2.2.2.2.2.2.2.1 u2.2.2.2.2.2.2.2.2.2.2.2.1 u2.2.2.2.2.2.2.2.2.2.2.2.2.1 u2.2.2.2.2.2.2.2.2.2.2.2.2.2.1 kz' bb') H := hP
  have hD : va_D (fun q : Nat => s.heap.size ≤ q) (lawW cI cJ fn nt aw ap an ae pu ao al co se pv av wya kp ch ac bo ax ay az ab af ag mo me mj mw mp mu ml mq m1 m2 m3 m4 m5 m6 m7 m8 nn mm wo pr ne en ke ow pl bd u.1 u.2.1 u.2.2.1 u.2.2.2.1 u.2.2.2.2 ln ba op sh ec sq xb wx wy wt nn mm ke' bd sq u2.1 u2.2.1 u2.2.2.1 u2.2.2.2.1 bA' oV' u2.2.2.2.2.1 u2.2.2.2.2.2.1 u2.2.2.2.2.2.2.1 u2.2.2.2.2.2.2.2.1 u2.2.2.2.2.2.2.2.2.2.2.2.2.2.2.1 u2.2.2.2.2.2.2.2.2.2.2.2.2.2.2.2 lo' sh' en' ne' wo' pr' ow' pl' wa' u2.2.2.2.2.2.2.2.2.1 u2.2.2.2.2.2.2.2.2.2.1 u2.2.2.2.2.2.2.2.2.2.2.1 u2.2.2.2.2.2.2.2.2.2.2.2.1 u2.2.2.2.2.2.2.2.2.2.2.2.2.1 u2.2.2.2.2.2.2.2.2.2.2.2.2.2.1 kz' bb') := hD
  refine lv_icmp_eq (tgt := 811) hx hb dL_law_585 (by decide) (fun _ => ?_) (fun hdif => absurd (by rw [show rC = _ from hp1, show rM = _ from hp2]; exact hans) hdif)
  exact kk _ _ _ _ _ _ _ _ _ _ _ _ _ _ _ _ _ _ _ _ _ _ _ _ _ _ _ _ _ _ _ _ _ _ _ _ _ _ _ _ _ _ _ _ _ _ _ _ _ _ _ _ _ _ _ _ _ _ _ H locs hinv hP hD hS
set_option maxHeartbeats 4000000 in
set_option maxRecDepth 100000 in
theorem law_worst (C0 : lw_At p s m meth c b L xv) (hL : L ≤ 3584) (hi : i + 7 ≤ L) (hK : va_K D vwCl (aT cI cJ) s) (hN : NW s) {a1 : Int32} (h1 : xv (nI i + nI 1).toNatClampNeg = a1) (hinv : INV nn mm wo pr ne en ke ow pl bd sq wx wy wt nn' mm' ke' bd' sq' en' ne' wo' pr' ow' pl' wa') (hP : va_P D vwCl (lawW cI cJ fn nt aw ap an ae pu ao al co se pv av wya kp ch ac bo ax ay az ab af ag mo me mj mw mp mu ml mq m1 m2 m3 m4 m5 m6 m7 m8 nn mm wo pr ne en ke ow pl bd x xs bs kf ov ln ba op sh ec sq xb wx wy wt nn' mm' ke' bd' sq' fi' gu' le' cs' bA' oV' lk' sp' bs' bo' su' sl' lo' sh' en' ne' wo' pr' ow' pl' wa' tr' fa' ga' la' bz' pz' kz' bb') H) (hD : va_D (fun q : Nat => s.heap.size ≤ q) (lawW cI cJ fn nt aw ap an ae pu ao al co se pv av wya kp ch ac bo ax ay az ab af ag mo me mj mw mp mu ml mq m1 m2 m3 m4 m5 m6 m7 m8 nn mm wo pr ne en ke ow pl bd x xs bs kf ov ln ba op sh ec sq xb wx wy wt nn' mm' ke' bd' sq' fi' gu' le' cs' bA' oV' lk' sp' bs' bo' su' sl' lo' sh' en' ne' wo' pr' ow' pl' wa' tr' fa' ga' la' bz' pz' kz' bb')) (hS : va_S (fun q : Nat => s.heap.size ≤ q) s.heap H locs) (hl : lv_has ls 4 [(0, .ref b), (1, .ref fn), (2, .ref mo), (3, .int (nI i))]) (kk : LawGo p l e s m below meth c b D cI cJ fn nt aw ap an ae pu ao al co se pv av wya kp ch ac bo ax ay az ab af ag mo me mj mw mp mu ml mq m1 m2 m3 m4 m5 m6 m7 m8 ls) : W p l e room_1 s m #[Value.ref b] below meth c H locs 40 5473 (lw_Z below #[Value.ref b] s) (F0 m 590 ls []) := by
  obtain ⟨hx, hb, hr, hml, hown, hts0, hX, hbl0, hlocks, hgv⟩ := id C0
  have hown : s.vm.findClass RL = some m.cls := hown
  have hb : c.code = cL_law := hb
  have hts : ∀ w ∈ wsL_law, w.before #[Value.ref b] s = true := fun w hw => hts0 w (wsL_law_in w hw)
  have hbA : ¬ (fun q : Nat => s.heap.size ≤ q) b := Nat.not_le.mpr hbl0
  obtain ⟨e1, e2, e3, e4, hm24, hsq, ⟨b0, p0, q0, hs⟩, ⟨o0, hpur⟩, hke, hen, hpl, hw⟩ := id hinv
  have e1 := e1.symm
  have e2 := e2.symm
  have e3 := e3.symm
  have e4 := e4.symm
  subst e1 e2 e3 e4
  obtain ⟨hn1, hn10, hpr, hne, hwo, hbl, hpc1, hpc9, hqc1, hqc9, hbd, hb1, hb2⟩ := id hs
  obtain ⟨ho, hoN, hkeE⟩ := id hpur
  obtain ⟨d, hd⟩ : ∃ d : Nat, 1 + d = 8 := ⟨7, rfl⟩
  refine lv_aload_n hx hb dL_law_590 rfl (lv_at hl 1 rfl) ?_
  refine lv_aload_n hx hb dL_law_591 rfl (lv_at hl 0 rfl) ?_
  refine lv_iload_n hx hb dL_law_592 rfl (lv_at hl 3 rfl) ?_
  refine lv_iconst (v := 1) hx hb dL_law_593 (by decide) ?_
  refine lv_iadd hx hb dL_law_594 ?_
  refine law_arg hx hb hX hbl0 hbA hS hi hL (j := 1) (by decide) rfl h1 dL_law_595 ?_
  refine goMI hP hD hS (va_runV (As := [.int a1]) (rest := []) ⟨hx, hb, hml, hown, hts⟩ (kX6_worst l D cI cJ fn nt pu al co se ch bo bd x pv xs bs wya kp av kf ov ao ke ow nn mm aw ap an ae wo pr ne d a1 (fun k => savL (nI nn) wo pr ne ow ke bd d ((1 : Int32) <<< (nI k &&& 31))) hn10 hd (fun k q ov => savL_any (cpy8 ow ov) _ _ _ _)) (cwV 1 hts gL_law_X6_worst rfl rfl rfl kdX6_worst ⟨Nat.le_of_ble_eq_true rfl, Nat.le_of_ble_eq_true rfl⟩) (preMV hK hN hP hD 0 (ci := 6) rfl rfl rfl [0, 9, 10, 13, 14, 11, 12, 6, 7, 1, 2, 3, 4] rfl (by decide)) rfl rfl hl.1 rfl (lv_room (Nat.le_of_ble_eq_true rfl)) dL_law_596 ⟨Nat.le_of_ble_eq_true rfl, Nat.le_of_ble_eq_true rfl⟩) [0, 9, 10, 13, 14, 11, 12, 6, 7, 1, 2, 3, 4] rfl (by decide) (fun _ => (show ([fn, co, se, wya, kp, pv, av, pu, ao, nt, aw, ap, an] : List Nat) = [fn, co, se, wya, kp, pv, av, pu, ao, nt, aw, ap, an] from rfl)) (fun rC u H locs hp1 hP hD hS => ?_)
  have hP : va_P D vwCl (lawW cI cJ fn nt aw ap an ae pu ao al co se pv av wya kp ch ac bo ax ay az ab af ag mo me mj mw mp mu ml mq m1 m2 m3 m4 m5 m6 m7 m8 nn mm wo pr ne en ke ow pl bd u.1 u.2.1 u.2.2.1 u.2.2.2.1 u.2.2.2.2 ln ba op sh ec sq xb wx wy wt nn mm ke' bd sq fi' gu' le' cs' bA' oV' lk' sp' bs' bo' su' sl' lo' sh' en' ne' wo' pr' ow' pl' wa' tr' fa' ga' la' bz' pz' kz' bb') H := hP
  have hD : va_D (fun q : Nat => s.heap.size ≤ q) (lawW cI cJ fn nt aw ap an ae pu ao al co se pv av wya kp ch ac bo ax ay az ab af ag mo me mj mw mp mu ml mq m1 m2 m3 m4 m5 m6 m7 m8 nn mm wo pr ne en ke ow pl bd u.1 u.2.1 u.2.2.1 u.2.2.2.1 u.2.2.2.2 ln ba op sh ec sq xb wx wy wt nn mm ke' bd sq fi' gu' le' cs' bA' oV' lk' sp' bs' bo' su' sl' lo' sh' en' ne' wo' pr' ow' pl' wa' tr' fa' ga' la' bz' pz' kz' bb') := hD
  refine lv_aload_n hx hb dL_law_599 rfl (lv_at hl 2 rfl) ?_
  refine lv_aload_n hx hb dL_law_600 rfl (lv_at hl 0 rfl) ?_
  refine lv_iload_n hx hb dL_law_601 rfl (lv_at hl 3 rfl) ?_
  refine lv_iconst (v := 1) hx hb dL_law_602 (by decide) ?_
  refine lv_iadd hx hb dL_law_603 ?_
  refine law_arg hx hb hX hbl0 hbA hS hi hL (j := 1) (by decide) rfl h1 dL_law_604 ?_
  refine goMI hP hD hS (va_runV (As := [.int a1]) (rest := [.int rC]) ⟨hx, hb, hml, hown, hts⟩ (kX7_worst l D cI cJ mo nn mm me mj mw mp mu ke' bd ml sq mq fi' gu' le' cs' bA' oV' m1 m2 m3 m4 lk' sp' bs' bo' m5 m6 m7 su' sl' m8 lo' sh' tr' fa' ga' la' bz' pz' ne' wo' pr' ow' a1 (fun k => savedM nn wo' (liveG nn wo' ne' pr' ow' ke' a1 ((1 : Int32) <<< (nI k &&& 31))).2.1) (fun k => savL (nI nn) wo pr ne ow ke bd d ((1 : Int32) <<< (nI k &&& 31))) hn10 (pickOK a1 hn10) (fun k _ => ⟨_, liveG_some (liveOK a1 hn10 hbl) rfl, rfl⟩) (endOK hn10 hbl) (fun k hk => ⟨_, _, _, _, (seek_all hs hpur hd (below_shl hk hn10) rfl).1⟩)) (cwV 1 hts gL_law_X7_worst rfl rfl rfl kdX7_worst ⟨Nat.le_of_ble_eq_true rfl, Nat.le_of_ble_eq_true rfl⟩) (preMV hK hN hP hD 24 (ci := 7) rfl rfl rfl [24, 32, 33, 34, 35, 36, 37, 26, 27, 28, 29] rfl (by decide)) rfl rfl hl.1 rfl (lv_room (Nat.le_of_ble_eq_true rfl)) dL_law_605 ⟨Nat.le_of_ble_eq_true rfl, Nat.le_of_ble_eq_true rfl⟩) [24, 32, 33, 34, 35, 36, 37, 26, 27, 28, 29] rfl (by decide) (fun _ => (show ([mo, m1, m2, m3, m4, m5, m6, mj, mw, mp, mu] : List Nat) = [mo, m1, m2, m3, m4, m5, m6, mj, mw, mp, mu] from rfl)) (fun rM u2 H locs hp2 hP hD hS => ?_)
  have hP : va_P D vwCl (lawW cI cJ fn nt aw ap an ae pu ao al co se pv av wya kp ch ac bo ax ay az ab af ag mo me mj mw mp mu ml mq m1 m2 m3 m4 m5 m6 m7 m8 nn mm wo pr ne en ke ow pl bd u.1 u.2.1 u.2.2.1 u.2.2.2.1 u.2.2.2.2 ln ba op sh ec sq xb wx wy wt nn mm ke' bd sq u2.1 u2.2.1 u2.2.2.1 u2.2.2.2.1 bA' oV' u2.2.2.2.2.1 u2.2.2.2.2.2.1 u2.2.2.2.2.2.2.1 u2.2.2.2.2.2.2.2.1 u2.2.2.2.2.2.2.2.2.2.2.2.2.2.2.1 u2.2.2.2.2.2.2.2.2.2.2.2.2.2.2.2 lo' sh' en' ne' wo' pr' ow' pl' wa' u2.2.2.2.2.2.2.2.2.1 u2.2.2.2.2.2.2.2.2.2.1 u2.2.2.2.2.2.2.2.2.2.2.1 u2.2.2.2.2.2.2.2.2.2.2.2.1 u2.2.2.2.2.2.2.2.2.2.2.2.2.1 u2.2.2.2.2.2.2.2.2.2.2.2.2.2.1 kz' bb') H := hP
  have hD : va_D (fun q : Nat => s.heap.size ≤ q) (lawW cI cJ fn nt aw ap an ae pu ao al co se pv av wya kp ch ac bo ax ay az ab af ag mo me mj mw mp mu ml mq m1 m2 m3 m4 m5 m6 m7 m8 nn mm wo pr ne en ke ow pl bd u.1 u.2.1 u.2.2.1 u.2.2.2.1 u.2.2.2.2 ln ba op sh ec sq xb wx wy wt nn mm ke' bd sq u2.1 u2.2.1 u2.2.2.1 u2.2.2.2.1 bA' oV' u2.2.2.2.2.1 u2.2.2.2.2.2.1 u2.2.2.2.2.2.2.1 u2.2.2.2.2.2.2.2.1 u2.2.2.2.2.2.2.2.2.2.2.2.2.2.2.1 u2.2.2.2.2.2.2.2.2.2.2.2.2.2.2.2 lo' sh' en' ne' wo' pr' ow' pl' wa' u2.2.2.2.2.2.2.2.2.1 u2.2.2.2.2.2.2.2.2.2.1 u2.2.2.2.2.2.2.2.2.2.2.1 u2.2.2.2.2.2.2.2.2.2.2.2.1 u2.2.2.2.2.2.2.2.2.2.2.2.2.1 u2.2.2.2.2.2.2.2.2.2.2.2.2.2.1 kz' bb') := hD
  refine lv_icmp_eq (tgt := 811) hx hb dL_law_608 (by decide) (fun _ => ?_) (fun hdif => absurd (by rw [show rC = _ from hp1, show rM = _ from hp2]; exact worst_full hs hpur hd a1) hdif)
  exact kk _ _ _ _ _ _ _ _ _ _ _ _ _ _ _ _ _ _ _ _ _ _ _ _ _ _ _ _ _ _ _ _ _ _ _ _ _ _ _ _ _ _ _ _ _ _ _ _ _ _ _ _ _ _ _ _ _ _ _ H locs hinv hP hD hS
set_option maxHeartbeats 4000000 in
set_option maxRecDepth 100000 in
theorem law_mean (C0 : lw_At p s m meth c b L xv) (hL : L ≤ 3584) (hi : i + 7 ≤ L) (hK : va_K D vwCl (aT cI cJ) s) (hN : NW s) {a1 a2 a3 : Int32} (h1 : xv (nI i + nI 1).toNatClampNeg = a1) (h2 : xv (nI i + nI 2).toNatClampNeg = a2) (h3 : xv (nI i + nI 3).toNatClampNeg = a3) (hinv : INV nn mm wo pr ne en ke ow pl bd sq wx wy wt nn' mm' ke' bd' sq' en' ne' wo' pr' ow' pl' wa') (hP : va_P D vwCl (lawW cI cJ fn nt aw ap an ae pu ao al co se pv av wya kp ch ac bo ax ay az ab af ag mo me mj mw mp mu ml mq m1 m2 m3 m4 m5 m6 m7 m8 nn mm wo pr ne en ke ow pl bd x xs bs kf ov ln ba op sh ec sq xb wx wy wt nn' mm' ke' bd' sq' fi' gu' le' cs' bA' oV' lk' sp' bs' bo' su' sl' lo' sh' en' ne' wo' pr' ow' pl' wa' tr' fa' ga' la' bz' pz' kz' bb') H) (hD : va_D (fun q : Nat => s.heap.size ≤ q) (lawW cI cJ fn nt aw ap an ae pu ao al co se pv av wya kp ch ac bo ax ay az ab af ag mo me mj mw mp mu ml mq m1 m2 m3 m4 m5 m6 m7 m8 nn mm wo pr ne en ke ow pl bd x xs bs kf ov ln ba op sh ec sq xb wx wy wt nn' mm' ke' bd' sq' fi' gu' le' cs' bA' oV' lk' sp' bs' bo' su' sl' lo' sh' en' ne' wo' pr' ow' pl' wa' tr' fa' ga' la' bz' pz' kz' bb')) (hS : va_S (fun q : Nat => s.heap.size ≤ q) s.heap H locs) (hl : lv_has ls 4 [(0, .ref b), (1, .ref fn), (2, .ref mo), (3, .int (nI i))]) (kk : LawGo p l e s m below meth c b D cI cJ fn nt aw ap an ae pu ao al co se pv av wya kp ch ac bo ax ay az ab af ag mo me mj mw mp mu ml mq m1 m2 m3 m4 m5 m6 m7 m8 ls) : W p l e room_1 s m #[Value.ref b] below meth c H locs 40 5473 (lw_Z below #[Value.ref b] s) (F0 m 613 ls []) := by
  obtain ⟨hx, hb, hr, hml, hown, hts0, hX, hbl0, hlocks, hgv⟩ := id C0
  have hown : s.vm.findClass RL = some m.cls := hown
  have hb : c.code = cL_law := hb
  have hts : ∀ w ∈ wsL_law, w.before #[Value.ref b] s = true := fun w hw => hts0 w (wsL_law_in w hw)
  have hbA : ¬ (fun q : Nat => s.heap.size ≤ q) b := Nat.not_le.mpr hbl0
  obtain ⟨e1, e2, e3, e4, hm24, hsq, ⟨b0, p0, q0, hs⟩, ⟨o0, hpur⟩, hke, hen, hpl, hw⟩ := id hinv
  have e1 := e1.symm
  have e2 := e2.symm
  have e3 := e3.symm
  have e4 := e4.symm
  subst e1 e2 e3 e4
  obtain ⟨hn1, hn10, hpr, hne, hwo, hbl, hpc1, hpc9, hqc1, hqc9, hbd, hb1, hb2⟩ := id hs
  obtain ⟨ho, hoN, hkeE⟩ := id hpur
  obtain ⟨g, hg, hans⟩ := mean_full hs hpur a1 a2 a3
  refine lv_aload_n hx hb dL_law_613 rfl (lv_at hl 1 rfl) ?_
  refine lv_aload_n hx hb dL_law_614 rfl (lv_at hl 0 rfl) ?_
  refine lv_iload_n hx hb dL_law_615 rfl (lv_at hl 3 rfl) ?_
  refine lv_iconst (v := 1) hx hb dL_law_616 (by decide) ?_
  refine lv_iadd hx hb dL_law_617 ?_
  refine law_arg hx hb hX hbl0 hbA hS hi hL (j := 1) (by decide) rfl h1 dL_law_618 ?_
  refine lv_aload_n hx hb dL_law_619 rfl (lv_at hl 0 rfl) ?_
  refine lv_iload_n hx hb dL_law_620 rfl (lv_at hl 3 rfl) ?_
  refine lv_iconst (v := 2) hx hb dL_law_621 (by decide) ?_
  refine lv_iadd hx hb dL_law_622 ?_
  refine law_arg hx hb hX hbl0 hbA hS hi hL (j := 2) (by decide) rfl h2 dL_law_623 ?_
  refine lv_aload_n hx hb dL_law_624 rfl (lv_at hl 0 rfl) ?_
  refine lv_iload_n hx hb dL_law_625 rfl (lv_at hl 3 rfl) ?_
  refine lv_iconst (v := 3) hx hb dL_law_626 (by decide) ?_
  refine lv_iadd hx hb dL_law_627 ?_
  refine law_arg hx hb hX hbl0 hbA hS hi hL (j := 3) (by decide) rfl h3 dL_law_628 ?_
  refine goMI hP hD hS (va_runV (As := [.int a1, .int a2, .int a3]) (rest := []) ⟨hx, hb, hml, hown, hts⟩ (kX6_mean l D cI cJ fn nt pu al co se ch bo bd x ao ke ow nn mm aw ap an ae wo pr ne a1 a2 a3) (cwV 3 hts gL_law_X6_mean rfl rfl rfl kdX6_mean ⟨Nat.le_of_ble_eq_true rfl, Nat.le_of_ble_eq_true rfl⟩) (preMV hK hN hP hD 0 (ci := 6) rfl rfl rfl [0, 9, 6, 7, 1, 2, 3, 4] rfl (by decide)) rfl rfl hl.1 rfl (lv_room (Nat.le_of_ble_eq_true rfl)) dL_law_629 ⟨Nat.le_of_ble_eq_true rfl, Nat.le_of_ble_eq_true rfl⟩) [0, 9, 6, 7, 1, 2, 3, 4] rfl (by decide) (fun _ => (show ([fn, co, pu, ao, nt, aw, ap, an] : List Nat) = [fn, co, pu, ao, nt, aw, ap, an] from rfl)) (fun rC u H locs hp1 hP hD hS => ?_)
  have hP : va_P D vwCl (lawW cI cJ fn nt aw ap an ae pu ao al co se pv av wya kp ch ac bo ax ay az ab af ag mo me mj mw mp mu ml mq m1 m2 m3 m4 m5 m6 m7 m8 nn mm wo pr ne en ke ow pl bd u xs bs kf ov ln ba op sh ec sq xb wx wy wt nn mm ke' bd sq fi' gu' le' cs' bA' oV' lk' sp' bs' bo' su' sl' lo' sh' en' ne' wo' pr' ow' pl' wa' tr' fa' ga' la' bz' pz' kz' bb') H := hP
  have hD : va_D (fun q : Nat => s.heap.size ≤ q) (lawW cI cJ fn nt aw ap an ae pu ao al co se pv av wya kp ch ac bo ax ay az ab af ag mo me mj mw mp mu ml mq m1 m2 m3 m4 m5 m6 m7 m8 nn mm wo pr ne en ke ow pl bd u xs bs kf ov ln ba op sh ec sq xb wx wy wt nn mm ke' bd sq fi' gu' le' cs' bA' oV' lk' sp' bs' bo' su' sl' lo' sh' en' ne' wo' pr' ow' pl' wa' tr' fa' ga' la' bz' pz' kz' bb') := hD
  refine lv_aload_n hx hb dL_law_632 rfl (lv_at hl 2 rfl) ?_
  refine lv_aload_n hx hb dL_law_633 rfl (lv_at hl 0 rfl) ?_
  refine lv_iload_n hx hb dL_law_634 rfl (lv_at hl 3 rfl) ?_
  refine lv_iconst (v := 1) hx hb dL_law_635 (by decide) ?_
  refine lv_iadd hx hb dL_law_636 ?_
  refine law_arg hx hb hX hbl0 hbA hS hi hL (j := 1) (by decide) rfl h1 dL_law_637 ?_
  refine lv_aload_n hx hb dL_law_638 rfl (lv_at hl 0 rfl) ?_
  refine lv_iload_n hx hb dL_law_639 rfl (lv_at hl 3 rfl) ?_
  refine lv_iconst (v := 2) hx hb dL_law_640 (by decide) ?_
  refine lv_iadd hx hb dL_law_641 ?_
  refine law_arg hx hb hX hbl0 hbA hS hi hL (j := 2) (by decide) rfl h2 dL_law_642 ?_
  refine lv_aload_n hx hb dL_law_643 rfl (lv_at hl 0 rfl) ?_
  refine lv_iload_n hx hb dL_law_644 rfl (lv_at hl 3 rfl) ?_
  refine lv_iconst (v := 3) hx hb dL_law_645 (by decide) ?_
  refine lv_iadd hx hb dL_law_646 ?_
  refine law_arg hx hb hX hbl0 hbA hS hi hL (j := 3) (by decide) rfl h3 dL_law_647 ?_
  refine goMI hP hD hS (va_runV (As := [.int a1, .int a2, .int a3]) (rest := [.int rC]) ⟨hx, hb, hml, hown, hts⟩ (kX7_mean l D cI cJ mo nn mm me mj mw mp mu ke' bd ml sq mq fi' gu' le' cs' bA' oV' m1 m2 m3 m4 lk' sp' bs' bo' m5 m6 m7 su' sl' m8 lo' sh' ne' wo' pr' ow' a1 a2 a3 (fun k => savedM nn wo' (liveG nn wo' ne' pr' ow' ke' a1 ((1 : Int32) <<< (nI k &&& 31))).2.1) g hn10 (pickOK a1 hn10) (fun k _ => ⟨_, liveG_some (liveOK a1 hn10 hbl) rfl, rfl⟩) hg) (cwV 3 hts gL_law_X7_mean rfl rfl rfl kdX7_mean ⟨Nat.le_of_ble_eq_true rfl, Nat.le_of_ble_eq_true rfl⟩) (preMV hK hN hP hD 24 (ci := 7) rfl rfl rfl [24, 26, 27, 28, 29] rfl (by decide)) rfl rfl hl.1 rfl (lv_room (Nat.le_of_ble_eq_true rfl)) dL_law_648 ⟨Nat.le_of_ble_eq_true rfl, Nat.le_of_ble_eq_true rfl⟩) [24, 26, 27, 28, 29] rfl (by decide) (fun _ => (show ([mo, mj, mw, mp, mu] : List Nat) = [mo, mj, mw, mp, mu] from rfl)) (fun rM u2 H locs hp2 hP hD hS => ?_)
  have hP : va_P D vwCl (lawW cI cJ fn nt aw ap an ae pu ao al co se pv av wya kp ch ac bo ax ay az ab af ag mo me mj mw mp mu ml mq m1 m2 m3 m4 m5 m6 m7 m8 nn mm wo pr ne en ke ow pl bd u xs bs kf ov ln ba op sh ec sq xb wx wy wt nn mm ke' bd sq u2.1 u2.2.1 u2.2.2.1 u2.2.2.2 bA' oV' lk' sp' bs' bo' su' sl' lo' sh' en' ne' wo' pr' ow' pl' wa' tr' fa' ga' la' bz' pz' kz' bb') H := hP
  have hD : va_D (fun q : Nat => s.heap.size ≤ q) (lawW cI cJ fn nt aw ap an ae pu ao al co se pv av wya kp ch ac bo ax ay az ab af ag mo me mj mw mp mu ml mq m1 m2 m3 m4 m5 m6 m7 m8 nn mm wo pr ne en ke ow pl bd u xs bs kf ov ln ba op sh ec sq xb wx wy wt nn mm ke' bd sq u2.1 u2.2.1 u2.2.2.1 u2.2.2.2 bA' oV' lk' sp' bs' bo' su' sl' lo' sh' en' ne' wo' pr' ow' pl' wa' tr' fa' ga' la' bz' pz' kz' bb') := hD
  refine lv_icmp_eq (tgt := 811) hx hb dL_law_651 (by decide) (fun _ => ?_) (fun hdif => absurd (by rw [show rC = _ from hp1, show rM = _ from hp2]; exact hans) hdif)
  exact kk _ _ _ _ _ _ _ _ _ _ _ _ _ _ _ _ _ _ _ _ _ _ _ _ _ _ _ _ _ _ _ _ _ _ _ _ _ _ _ _ _ _ _ _ _ _ _ _ _ _ _ _ _ _ _ _ _ _ _ H locs hinv hP hD hS
set_option maxHeartbeats 4000000 in
set_option maxRecDepth 100000 in
theorem law_chance (C0 : lw_At p s m meth c b L xv) (hL : L ≤ 3584) (hi : i + 7 ≤ L) (hK : va_K D vwCl (aT cI cJ) s) (hN : NW s) {a1 a2 a3 a4 a5 a6 : Int32} (h1 : xv (nI i + nI 1).toNatClampNeg = a1) (h2 : xv (nI i + nI 2).toNatClampNeg = a2) (h3 : xv (nI i + nI 3).toNatClampNeg = a3) (h4 : xv (nI i + nI 4).toNatClampNeg = a4) (h5 : xv (nI i + nI 5).toNatClampNeg = a5) (h6 : xv (nI i + nI 6).toNatClampNeg = a6) (hinv : INV nn mm wo pr ne en ke ow pl bd sq wx wy wt nn' mm' ke' bd' sq' en' ne' wo' pr' ow' pl' wa') (hP : va_P D vwCl (lawW cI cJ fn nt aw ap an ae pu ao al co se pv av wya kp ch ac bo ax ay az ab af ag mo me mj mw mp mu ml mq m1 m2 m3 m4 m5 m6 m7 m8 nn mm wo pr ne en ke ow pl bd x xs bs kf ov ln ba op sh ec sq xb wx wy wt nn' mm' ke' bd' sq' fi' gu' le' cs' bA' oV' lk' sp' bs' bo' su' sl' lo' sh' en' ne' wo' pr' ow' pl' wa' tr' fa' ga' la' bz' pz' kz' bb') H) (hD : va_D (fun q : Nat => s.heap.size ≤ q) (lawW cI cJ fn nt aw ap an ae pu ao al co se pv av wya kp ch ac bo ax ay az ab af ag mo me mj mw mp mu ml mq m1 m2 m3 m4 m5 m6 m7 m8 nn mm wo pr ne en ke ow pl bd x xs bs kf ov ln ba op sh ec sq xb wx wy wt nn' mm' ke' bd' sq' fi' gu' le' cs' bA' oV' lk' sp' bs' bo' su' sl' lo' sh' en' ne' wo' pr' ow' pl' wa' tr' fa' ga' la' bz' pz' kz' bb')) (hS : va_S (fun q : Nat => s.heap.size ≤ q) s.heap H locs) (hl : lv_has ls 4 [(0, .ref b), (1, .ref fn), (2, .ref mo), (3, .int (nI i))]) (kk : LawGo p l e s m below meth c b D cI cJ fn nt aw ap an ae pu ao al co se pv av wya kp ch ac bo ax ay az ab af ag mo me mj mw mp mu ml mq m1 m2 m3 m4 m5 m6 m7 m8 ls) : W p l e room_1 s m #[Value.ref b] below meth c H locs 40 5473 (lw_Z below #[Value.ref b] s) (F0 m 656 ls []) := by
  obtain ⟨hx, hb, hr, hml, hown, hts0, hX, hbl0, hlocks, hgv⟩ := id C0
  have hown : s.vm.findClass RL = some m.cls := hown
  have hb : c.code = cL_law := hb
  have hts : ∀ w ∈ wsL_law, w.before #[Value.ref b] s = true := fun w hw => hts0 w (wsL_law_in w hw)
  have hbA : ¬ (fun q : Nat => s.heap.size ≤ q) b := Nat.not_le.mpr hbl0
  obtain ⟨e1, e2, e3, e4, hm24, hsq, ⟨b0, p0, q0, hs⟩, ⟨o0, hpur⟩, hke, hen, hpl, hw⟩ := id hinv
  have e1 := e1.symm
  have e2 := e2.symm
  have e3 := e3.symm
  have e4 := e4.symm
  subst e1 e2 e3 e4
  obtain ⟨hn1, hn10, hpr, hne, hwo, hbl, hpc1, hpc9, hqc1, hqc9, hbd, hb1, hb2⟩ := id hs
  obtain ⟨ho, hoN, hkeE⟩ := id hpur
  have hch := chance_eq hn10 hn1 (ec := ec) hen a1 a2 a3 a4 a5 a6
  refine lv_aload_n hx hb dL_law_656 rfl (lv_at hl 1 rfl) ?_
  refine lv_aload_n hx hb dL_law_657 rfl (lv_at hl 0 rfl) ?_
  refine lv_iload_n hx hb dL_law_658 rfl (lv_at hl 3 rfl) ?_
  refine lv_iconst (v := 1) hx hb dL_law_659 (by decide) ?_
  refine lv_iadd hx hb dL_law_660 ?_
  refine law_arg hx hb hX hbl0 hbA hS hi hL (j := 1) (by decide) rfl h1 dL_law_661 ?_
  refine lv_aload_n hx hb dL_law_662 rfl (lv_at hl 0 rfl) ?_
  refine lv_iload_n hx hb dL_law_663 rfl (lv_at hl 3 rfl) ?_
  refine lv_iconst (v := 2) hx hb dL_law_664 (by decide) ?_
  refine lv_iadd hx hb dL_law_665 ?_
  refine law_arg hx hb hX hbl0 hbA hS hi hL (j := 2) (by decide) rfl h2 dL_law_666 ?_
  refine lv_aload_n hx hb dL_law_667 rfl (lv_at hl 0 rfl) ?_
  refine lv_iload_n hx hb dL_law_668 rfl (lv_at hl 3 rfl) ?_
  refine lv_iconst (v := 3) hx hb dL_law_669 (by decide) ?_
  refine lv_iadd hx hb dL_law_670 ?_
  refine law_arg hx hb hX hbl0 hbA hS hi hL (j := 3) (by decide) rfl h3 dL_law_671 ?_
  refine lv_aload_n hx hb dL_law_672 rfl (lv_at hl 0 rfl) ?_
  refine lv_iload_n hx hb dL_law_673 rfl (lv_at hl 3 rfl) ?_
  refine lv_iconst (v := 4) hx hb dL_law_674 (by decide) ?_
  refine lv_iadd hx hb dL_law_675 ?_
  refine law_arg hx hb hX hbl0 hbA hS hi hL (j := 4) (by decide) rfl h4 dL_law_676 ?_
  refine lv_aload_n hx hb dL_law_677 rfl (lv_at hl 0 rfl) ?_
  refine lv_iload_n hx hb dL_law_678 rfl (lv_at hl 3 rfl) ?_
  refine lv_iconst (v := 5) hx hb dL_law_679 (by decide) ?_
  refine lv_iadd hx hb dL_law_680 ?_
  refine law_arg hx hb hX hbl0 hbA hS hi hL (j := 5) (by decide) rfl h5 dL_law_681 ?_
  refine lv_aload_n hx hb dL_law_682 rfl (lv_at hl 0 rfl) ?_
  refine lv_iload_n hx hb dL_law_683 rfl (lv_at hl 3 rfl) ?_
  refine lv_bipush (v := 6) hx hb dL_law_684 (by decide) ?_
  refine lv_iadd hx hb dL_law_686 ?_
  refine law_arg hx hb hX hbl0 hbA hS hi hL (j := 6) (by decide) rfl h6 dL_law_687 ?_
  refine goML hP hD hS (va_runV (As := [.int a1, .int a2, .int a3, .int a4, .int a5, .int a6]) (rest := []) ⟨hx, hb, hml, hown, hts⟩ (kX6_chance l D cI cJ fn nt pu al co se ch bo bd nn mm aw ap an ae en ac ln ba op sh ec a1 a2 a3 a4 a5 a6 hm24) (cwV 6 hts gL_law_X6_chance rfl rfl rfl kdX6_chance ⟨Nat.le_of_ble_eq_true rfl, Nat.le_of_ble_eq_true rfl⟩) (preMV hK hN hP hD 0 (ci := 6) rfl rfl rfl [0, 1, 5, 15, 16] rfl (by decide)) rfl rfl hl.1 rfl (lv_room (Nat.le_of_ble_eq_true rfl)) dL_law_688 ⟨Nat.le_of_ble_eq_true rfl, Nat.le_of_ble_eq_true rfl⟩) [0, 1, 5, 15, 16] rfl (by decide) (fun _ => (show ([fn, nt, ae, ch, ac] : List Nat) = [fn, nt, ae, ch, ac] from rfl)) (fun rC u H locs hp1 hP hD hS => ?_)
  have hP : va_P D vwCl (lawW cI cJ fn nt aw ap an ae pu ao al co se pv av wya kp ch ac bo ax ay az ab af ag mo me mj mw mp mu ml mq m1 m2 m3 m4 m5 m6 m7 m8 nn mm wo pr ne en ke ow pl bd x xs bs kf ov u.1 u.2.1 u.2.2.1 u.2.2.2.1 u.2.2.2.2 sq xb wx wy wt nn mm ke' bd sq fi' gu' le' cs' bA' oV' lk' sp' bs' bo' su' sl' lo' sh' en' ne' wo' pr' ow' pl' wa' tr' fa' ga' la' bz' pz' kz' bb') H := hP
  have hD : va_D (fun q : Nat => s.heap.size ≤ q) (lawW cI cJ fn nt aw ap an ae pu ao al co se pv av wya kp ch ac bo ax ay az ab af ag mo me mj mw mp mu ml mq m1 m2 m3 m4 m5 m6 m7 m8 nn mm wo pr ne en ke ow pl bd x xs bs kf ov u.1 u.2.1 u.2.2.1 u.2.2.2.1 u.2.2.2.2 sq xb wx wy wt nn mm ke' bd sq fi' gu' le' cs' bA' oV' lk' sp' bs' bo' su' sl' lo' sh' en' ne' wo' pr' ow' pl' wa' tr' fa' ga' la' bz' pz' kz' bb') := hD
  refine lv_aload_n hx hb dL_law_691 rfl (lv_at hl 2 rfl) ?_
  refine lv_aload_n hx hb dL_law_692 rfl (lv_at hl 0 rfl) ?_
  refine lv_iload_n hx hb dL_law_693 rfl (lv_at hl 3 rfl) ?_
  refine lv_iconst (v := 1) hx hb dL_law_694 (by decide) ?_
  refine lv_iadd hx hb dL_law_695 ?_
  refine law_arg hx hb hX hbl0 hbA hS hi hL (j := 1) (by decide) rfl h1 dL_law_696 ?_
  refine lv_aload_n hx hb dL_law_697 rfl (lv_at hl 0 rfl) ?_
  refine lv_iload_n hx hb dL_law_698 rfl (lv_at hl 3 rfl) ?_
  refine lv_iconst (v := 2) hx hb dL_law_699 (by decide) ?_
  refine lv_iadd hx hb dL_law_700 ?_
  refine law_arg hx hb hX hbl0 hbA hS hi hL (j := 2) (by decide) rfl h2 dL_law_701 ?_
  refine lv_aload_n hx hb dL_law_702 rfl (lv_at hl 0 rfl) ?_
  refine lv_iload_n hx hb dL_law_703 rfl (lv_at hl 3 rfl) ?_
  refine lv_iconst (v := 3) hx hb dL_law_704 (by decide) ?_
  refine lv_iadd hx hb dL_law_705 ?_
  refine law_arg hx hb hX hbl0 hbA hS hi hL (j := 3) (by decide) rfl h3 dL_law_706 ?_
  refine lv_aload_n hx hb dL_law_707 rfl (lv_at hl 0 rfl) ?_
  refine lv_iload_n hx hb dL_law_708 rfl (lv_at hl 3 rfl) ?_
  refine lv_iconst (v := 4) hx hb dL_law_709 (by decide) ?_
  refine lv_iadd hx hb dL_law_710 ?_
  refine law_arg hx hb hX hbl0 hbA hS hi hL (j := 4) (by decide) rfl h4 dL_law_711 ?_
  refine lv_aload_n hx hb dL_law_712 rfl (lv_at hl 0 rfl) ?_
  refine lv_iload_n hx hb dL_law_713 rfl (lv_at hl 3 rfl) ?_
  refine lv_iconst (v := 5) hx hb dL_law_714 (by decide) ?_
  refine lv_iadd hx hb dL_law_715 ?_
  refine law_arg hx hb hX hbl0 hbA hS hi hL (j := 5) (by decide) rfl h5 dL_law_716 ?_
  refine lv_aload_n hx hb dL_law_717 rfl (lv_at hl 0 rfl) ?_
  refine lv_iload_n hx hb dL_law_718 rfl (lv_at hl 3 rfl) ?_
  refine lv_bipush (v := 6) hx hb dL_law_719 (by decide) ?_
  refine lv_iadd hx hb dL_law_721 ?_
  refine law_arg hx hb hX hbl0 hbA hS hi hL (j := 6) (by decide) rfl h6 dL_law_722 ?_
  refine goRL hP hS (va_runV (As := [.int a1, .int a2, .int a3, .int a4, .int a5, .int a6]) (rest := [.long rC]) ⟨hx, hb, hml, hown, hts⟩ (kX7_chance l D cI cJ mo nn mm me mj mw mp mu ke' bd ml sq mq fi' gu' le' cs' bA' oV' m1 m2 m3 m4 lk' sp' bs' bo' m5 m6 m7 su' sl' m8 lo' sh' en' a1 a2 a3 a4 a5 a6 (RSv en' mm (a3 &&& (a2 ^^^ (-1))) a2) (getQ (gcdQ 60 (chanA (RSv en' mm (a3 &&& (a2 ^^^ (-1))) a2) a1 a4 a5 mm (2 ^ mm)) (powL a5.toInt64 mm))) hn10 hm24 (fun o _ => RSv_any _ _ _ _ o) hch.1) (cwV 6 hts gL_law_X7_chance rfl rfl rfl kdX7_chance ⟨Nat.le_of_ble_eq_true rfl, Nat.le_of_ble_eq_true rfl⟩) (preRV hK hN hP 24 (ci := 7) rfl rfl rfl [24, 25] rfl) rfl rfl hl.1 rfl (lv_room (Nat.le_of_ble_eq_true rfl)) dL_law_723 ⟨Nat.le_of_ble_eq_true rfl, Nat.le_of_ble_eq_true rfl⟩) (fun H locs hP hS => ?_)
  refine W.lcmp hx hb dL_law_726 ?_
  refine lv_if_eq (tgt := 811) hx hb dL_law_727 (by decide) (fun _ => ?_) (fun hdif => absurd ((cmp_eq0 _ _).mpr (by rw [show rC = _ from hp1]; exact hch.2)) hdif)
  exact kk _ _ _ _ _ _ _ _ _ _ _ _ _ _ _ _ _ _ _ _ _ _ _ _ _ _ _ _ _ _ _ _ _ _ _ _ _ _ _ _ _ _ _ _ _ _ _ _ _ _ _ _ _ _ _ _ _ _ _ H locs hinv hP hD hS
set_option maxHeartbeats 4000000 in
set_option maxRecDepth 100000 in
theorem law_wall (C0 : lw_At p s m meth c b L xv) (hL : L ≤ 3584) (hi : i + 7 ≤ L) (hK : va_K D vwCl (aT cI cJ) s) (hN : NW s) {a1 a2 a3 : Int32} (h1 : xv (nI i + nI 1).toNatClampNeg = a1) (h2 : xv (nI i + nI 2).toNatClampNeg = a2) (h3 : xv (nI i + nI 3).toNatClampNeg = a3) (hinv : INV nn mm wo pr ne en ke ow pl bd sq wx wy wt nn' mm' ke' bd' sq' en' ne' wo' pr' ow' pl' wa') (hP : va_P D vwCl (lawW cI cJ fn nt aw ap an ae pu ao al co se pv av wya kp ch ac bo ax ay az ab af ag mo me mj mw mp mu ml mq m1 m2 m3 m4 m5 m6 m7 m8 nn mm wo pr ne en ke ow pl bd x xs bs kf ov ln ba op sh ec sq xb wx wy wt nn' mm' ke' bd' sq' fi' gu' le' cs' bA' oV' lk' sp' bs' bo' su' sl' lo' sh' en' ne' wo' pr' ow' pl' wa' tr' fa' ga' la' bz' pz' kz' bb') H) (hD : va_D (fun q : Nat => s.heap.size ≤ q) (lawW cI cJ fn nt aw ap an ae pu ao al co se pv av wya kp ch ac bo ax ay az ab af ag mo me mj mw mp mu ml mq m1 m2 m3 m4 m5 m6 m7 m8 nn mm wo pr ne en ke ow pl bd x xs bs kf ov ln ba op sh ec sq xb wx wy wt nn' mm' ke' bd' sq' fi' gu' le' cs' bA' oV' lk' sp' bs' bo' su' sl' lo' sh' en' ne' wo' pr' ow' pl' wa' tr' fa' ga' la' bz' pz' kz' bb')) (hS : va_S (fun q : Nat => s.heap.size ≤ q) s.heap H locs) (hl : lv_has ls 4 [(0, .ref b), (1, .ref fn), (2, .ref mo), (3, .int (nI i))]) (kk : LawGo p l e s m below meth c b D cI cJ fn nt aw ap an ae pu ao al co se pv av wya kp ch ac bo ax ay az ab af ag mo me mj mw mp mu ml mq m1 m2 m3 m4 m5 m6 m7 m8 ls) : W p l e room_1 s m #[Value.ref b] below meth c H locs 40 5473 (lw_Z below #[Value.ref b] s) (F0 m 732 ls []) := by
  obtain ⟨hx, hb, hr, hml, hown, hts0, hX, hbl0, hlocks, hgv⟩ := id C0
  have hown : s.vm.findClass RL = some m.cls := hown
  have hb : c.code = cL_law := hb
  have hts : ∀ w ∈ wsL_law, w.before #[Value.ref b] s = true := fun w hw => hts0 w (wsL_law_in w hw)
  have hbA : ¬ (fun q : Nat => s.heap.size ≤ q) b := Nat.not_le.mpr hbl0
  obtain ⟨e1, e2, e3, e4, hm24, hsq, ⟨b0, p0, q0, hs⟩, ⟨o0, hpur⟩, hke, hen, hpl, hw⟩ := id hinv
  have e1 := e1.symm
  have e2 := e2.symm
  have e3 := e3.symm
  have e4 := e4.symm
  subst e1 e2 e3 e4
  obtain ⟨hn1, hn10, hpr, hne, hwo, hbl, hpc1, hpc9, hqc1, hqc9, hbd, hb1, hb2⟩ := id hs
  obtain ⟨ho, hoN, hkeE⟩ := id hpur
  refine lv_aload_n hx hb dL_law_732 rfl (lv_at hl 1 rfl) ?_
  refine lv_aload_n hx hb dL_law_733 rfl (lv_at hl 0 rfl) ?_
  refine lv_iload_n hx hb dL_law_734 rfl (lv_at hl 3 rfl) ?_
  refine lv_iconst (v := 1) hx hb dL_law_735 (by decide) ?_
  refine lv_iadd hx hb dL_law_736 ?_
  refine law_arg hx hb hX hbl0 hbA hS hi hL (j := 1) (by decide) rfl h1 dL_law_737 ?_
  refine lv_aload_n hx hb dL_law_738 rfl (lv_at hl 0 rfl) ?_
  refine lv_iload_n hx hb dL_law_739 rfl (lv_at hl 3 rfl) ?_
  refine lv_iconst (v := 2) hx hb dL_law_740 (by decide) ?_
  refine lv_iadd hx hb dL_law_741 ?_
  refine law_arg hx hb hX hbl0 hbA hS hi hL (j := 2) (by decide) rfl h2 dL_law_742 ?_
  refine lv_aload_n hx hb dL_law_743 rfl (lv_at hl 0 rfl) ?_
  refine lv_iload_n hx hb dL_law_744 rfl (lv_at hl 3 rfl) ?_
  refine lv_iconst (v := 3) hx hb dL_law_745 (by decide) ?_
  refine lv_iadd hx hb dL_law_746 ?_
  refine law_arg hx hb hX hbl0 hbA hS hi hL (j := 3) (by decide) rfl h3 dL_law_747 ?_
  refine goMI hP hD hS (va_runV (As := [.int a1, .int a2, .int a3]) (rest := []) ⟨hx, hb, hml, hown, hts⟩ (kX6_wall l D cI cJ fn nt pu al co se ch bo bd sq xb.1 xb.2.1 ax ay az ab af ag wx wy wt a1 a2 a3 hsq) (cwV 3 hts gL_law_X6_wall rfl rfl rfl kdX6_wall ⟨Nat.le_of_ble_eq_true rfl, Nat.le_of_ble_eq_true rfl⟩) (preMV hK hN hP hD 0 (ci := 6) rfl rfl rfl [0, 17, 18, 19, 20] rfl (by decide)) rfl rfl hl.1 rfl (lv_room (Nat.le_of_ble_eq_true rfl)) dL_law_748 ⟨Nat.le_of_ble_eq_true rfl, Nat.le_of_ble_eq_true rfl⟩) [0, 17, 18, 19, 20] rfl (by decide) (fun _ => (show ([fn, bo, ax, ay, az] : List Nat) = [fn, bo, ax, ay, az] from rfl)) (fun rC u H locs hp1 hP hD hS => ?_)
  have hP : va_P D vwCl (lawW cI cJ fn nt aw ap an ae pu ao al co se pv av wya kp ch ac bo ax ay az ab af ag mo me mj mw mp mu ml mq m1 m2 m3 m4 m5 m6 m7 m8 nn mm wo pr ne en ke ow pl bd x xs bs kf ov ln ba op sh ec (if wallB wx wy sq a1 a2 a3 = true then sq + 1 else sq) xb (if wallB wx wy sq a1 a2 a3 = true then upd wx sq a1 else wx) (if wallB wx wy sq a1 a2 a3 = true then upd wy sq a2 else wy) (if wallB wx wy sq a1 a2 a3 = true then upd wt sq a3 else wt) nn mm ke' bd sq fi' gu' le' cs' bA' oV' lk' sp' bs' bo' su' sl' lo' sh' en' ne' wo' pr' ow' pl' wa' tr' fa' ga' la' bz' pz' kz' bb') H := hP
  have hD : va_D (fun q : Nat => s.heap.size ≤ q) (lawW cI cJ fn nt aw ap an ae pu ao al co se pv av wya kp ch ac bo ax ay az ab af ag mo me mj mw mp mu ml mq m1 m2 m3 m4 m5 m6 m7 m8 nn mm wo pr ne en ke ow pl bd x xs bs kf ov ln ba op sh ec (if wallB wx wy sq a1 a2 a3 = true then sq + 1 else sq) xb (if wallB wx wy sq a1 a2 a3 = true then upd wx sq a1 else wx) (if wallB wx wy sq a1 a2 a3 = true then upd wy sq a2 else wy) (if wallB wx wy sq a1 a2 a3 = true then upd wt sq a3 else wt) nn mm ke' bd sq fi' gu' le' cs' bA' oV' lk' sp' bs' bo' su' sl' lo' sh' en' ne' wo' pr' ow' pl' wa' tr' fa' ga' la' bz' pz' kz' bb') := hD
  refine lv_aload_n hx hb dL_law_751 rfl (lv_at hl 2 rfl) ?_
  refine lv_aload_n hx hb dL_law_752 rfl (lv_at hl 0 rfl) ?_
  refine lv_iload_n hx hb dL_law_753 rfl (lv_at hl 3 rfl) ?_
  refine lv_iconst (v := 1) hx hb dL_law_754 (by decide) ?_
  refine lv_iadd hx hb dL_law_755 ?_
  refine law_arg hx hb hX hbl0 hbA hS hi hL (j := 1) (by decide) rfl h1 dL_law_756 ?_
  refine lv_aload_n hx hb dL_law_757 rfl (lv_at hl 0 rfl) ?_
  refine lv_iload_n hx hb dL_law_758 rfl (lv_at hl 3 rfl) ?_
  refine lv_iconst (v := 2) hx hb dL_law_759 (by decide) ?_
  refine lv_iadd hx hb dL_law_760 ?_
  refine law_arg hx hb hX hbl0 hbA hS hi hL (j := 2) (by decide) rfl h2 dL_law_761 ?_
  refine lv_aload_n hx hb dL_law_762 rfl (lv_at hl 0 rfl) ?_
  refine lv_iload_n hx hb dL_law_763 rfl (lv_at hl 3 rfl) ?_
  refine lv_iconst (v := 3) hx hb dL_law_764 (by decide) ?_
  refine lv_iadd hx hb dL_law_765 ?_
  refine law_arg hx hb hX hbl0 hbA hS hi hL (j := 3) (by decide) rfl h3 dL_law_766 ?_
  refine goMI hP hD hS (va_runV (As := [.int a1, .int a2, .int a3]) (rest := [.int rC]) ⟨hx, hb, hml, hown, hts⟩ (kX7_wall l D cI cJ mo nn mm me mj mw mp mu ke' bd ml sq mq fi' gu' le' cs' bA' oV' m1 m2 m3 m4 lk' sp' bs' bo' m5 m6 m7 su' sl' m8 lo' sh' wa' a1 a2 a3 hsq) (cwV 3 hts gL_law_X7_wall rfl rfl rfl kdX7_wall ⟨Nat.le_of_ble_eq_true rfl, Nat.le_of_ble_eq_true rfl⟩) (preMV hK hN hP hD 24 (ci := 7) rfl rfl rfl [24, 31] rfl (by decide)) rfl rfl hl.1 rfl (lv_room (Nat.le_of_ble_eq_true rfl)) dL_law_767 ⟨Nat.le_of_ble_eq_true rfl, Nat.le_of_ble_eq_true rfl⟩) [24, 31] rfl (by decide) (fun _ => (show ([mo, mq] : List Nat) = [mo, mq] from rfl)) (fun rM u2 H locs hp2 hP hD hS => ?_)
  have hP : va_P D vwCl (lawW cI cJ fn nt aw ap an ae pu ao al co se pv av wya kp ch ac bo ax ay az ab af ag mo me mj mw mp mu ml mq m1 m2 m3 m4 m5 m6 m7 m8 nn mm wo pr ne en ke ow pl bd x xs bs kf ov ln ba op sh ec (if wallB wx wy sq a1 a2 a3 = true then sq + 1 else sq) xb (if wallB wx wy sq a1 a2 a3 = true then upd wx sq a1 else wx) (if wallB wx wy sq a1 a2 a3 = true then upd wy sq a2 else wy) (if wallB wx wy sq a1 a2 a3 = true then upd wt sq a3 else wt) nn mm ke' bd (if wallC wa' sq a1 a2 a3 = true then sq + 1 else sq) fi' gu' le' cs' bA' oV' lk' sp' bs' bo' su' sl' lo' sh' en' ne' wo' pr' ow' pl' (if wallC wa' sq a1 a2 a3 = true then upd (upd (upd wa' (3 * sq) a1) (3 * sq + 1) a2) (3 * sq + 2) a3 else wa') tr' fa' ga' la' bz' pz' kz' bb') H := hP
  have hD : va_D (fun q : Nat => s.heap.size ≤ q) (lawW cI cJ fn nt aw ap an ae pu ao al co se pv av wya kp ch ac bo ax ay az ab af ag mo me mj mw mp mu ml mq m1 m2 m3 m4 m5 m6 m7 m8 nn mm wo pr ne en ke ow pl bd x xs bs kf ov ln ba op sh ec (if wallB wx wy sq a1 a2 a3 = true then sq + 1 else sq) xb (if wallB wx wy sq a1 a2 a3 = true then upd wx sq a1 else wx) (if wallB wx wy sq a1 a2 a3 = true then upd wy sq a2 else wy) (if wallB wx wy sq a1 a2 a3 = true then upd wt sq a3 else wt) nn mm ke' bd (if wallC wa' sq a1 a2 a3 = true then sq + 1 else sq) fi' gu' le' cs' bA' oV' lk' sp' bs' bo' su' sl' lo' sh' en' ne' wo' pr' ow' pl' (if wallC wa' sq a1 a2 a3 = true then upd (upd (upd wa' (3 * sq) a1) (3 * sq + 1) a2) (3 * sq + 2) a3 else wa') tr' fa' ga' la' bz' pz' kz' bb') := hD
  refine lv_icmp_eq (tgt := 811) hx hb dL_law_770 (by decide) (fun _ => ?_) (fun hdif => absurd (by rw [show rC = _ from hp1, show rM = _ from hp2]; exact (inv_wall hinv a1 a2 a3).1) hdif)
  exact kk _ _ _ _ _ _ _ _ _ _ _ _ _ _ _ _ _ _ _ _ _ _ _ _ _ _ _ _ _ _ _ _ _ _ _ _ _ _ _ _ _ _ _ _ _ _ _ _ _ _ _ _ _ _ _ _ _ _ _ H locs (inv_wall hinv a1 a2 a3).2 hP hD hS
set_option maxHeartbeats 4000000 in
set_option maxRecDepth 100000 in
theorem law_raze (C0 : lw_At p s m meth c b L xv) (hL : L ≤ 3584) (hi : i + 7 ≤ L) (hK : va_K D vwCl (aT cI cJ) s) (hN : NW s)  (hinv : INV nn mm wo pr ne en ke ow pl bd sq wx wy wt nn' mm' ke' bd' sq' en' ne' wo' pr' ow' pl' wa') (hP : va_P D vwCl (lawW cI cJ fn nt aw ap an ae pu ao al co se pv av wya kp ch ac bo ax ay az ab af ag mo me mj mw mp mu ml mq m1 m2 m3 m4 m5 m6 m7 m8 nn mm wo pr ne en ke ow pl bd x xs bs kf ov ln ba op sh ec sq xb wx wy wt nn' mm' ke' bd' sq' fi' gu' le' cs' bA' oV' lk' sp' bs' bo' su' sl' lo' sh' en' ne' wo' pr' ow' pl' wa' tr' fa' ga' la' bz' pz' kz' bb') H) (hD : va_D (fun q : Nat => s.heap.size ≤ q) (lawW cI cJ fn nt aw ap an ae pu ao al co se pv av wya kp ch ac bo ax ay az ab af ag mo me mj mw mp mu ml mq m1 m2 m3 m4 m5 m6 m7 m8 nn mm wo pr ne en ke ow pl bd x xs bs kf ov ln ba op sh ec sq xb wx wy wt nn' mm' ke' bd' sq' fi' gu' le' cs' bA' oV' lk' sp' bs' bo' su' sl' lo' sh' en' ne' wo' pr' ow' pl' wa' tr' fa' ga' la' bz' pz' kz' bb')) (hS : va_S (fun q : Nat => s.heap.size ≤ q) s.heap H locs) (hl : lv_has ls 4 [(0, .ref b), (1, .ref fn), (2, .ref mo), (3, .int (nI i))]) (kk : LawGo p l e s m below meth c b D cI cJ fn nt aw ap an ae pu ao al co se pv av wya kp ch ac bo ax ay az ab af ag mo me mj mw mp mu ml mq m1 m2 m3 m4 m5 m6 m7 m8 ls) : W p l e room_1 s m #[Value.ref b] below meth c H locs 40 5473 (lw_Z below #[Value.ref b] s) (F0 m 775 ls []) := by
  obtain ⟨hx, hb, hr, hml, hown, hts0, hX, hbl0, hlocks, hgv⟩ := id C0
  have hown : s.vm.findClass RL = some m.cls := hown
  have hb : c.code = cL_law := hb
  have hts : ∀ w ∈ wsL_law, w.before #[Value.ref b] s = true := fun w hw => hts0 w (wsL_law_in w hw)
  have hbA : ¬ (fun q : Nat => s.heap.size ≤ q) b := Nat.not_le.mpr hbl0
  obtain ⟨e1, e2, e3, e4, hm24, hsq, ⟨b0, p0, q0, hs⟩, ⟨o0, hpur⟩, hke, hen, hpl, hw⟩ := id hinv
  have e1 := e1.symm
  have e2 := e2.symm
  have e3 := e3.symm
  have e4 := e4.symm
  subst e1 e2 e3 e4
  obtain ⟨hn1, hn10, hpr, hne, hwo, hbl, hpc1, hpc9, hqc1, hqc9, hbd, hb1, hb2⟩ := id hs
  obtain ⟨ho, hoN, hkeE⟩ := id hpur
  refine lv_aload_n hx hb dL_law_775 rfl (lv_at hl 1 rfl) ?_
  refine goMI hP hD hS (va_runV (As := []) (rest := []) ⟨hx, hb, hml, hown, hts⟩ (kX6_raze l D cI cJ fn nt pu al co se ch bo bd sq xb.1 xb.2.1 ax ay az ab af ag) (cwV 0 hts gL_law_X6_raze rfl rfl rfl kdX6_raze ⟨Nat.le_of_ble_eq_true rfl, Nat.le_of_ble_eq_true rfl⟩) (preMV hK hN hP hD 0 (ci := 6) rfl rfl rfl [0, 17] rfl (by decide)) rfl rfl hl.1 rfl (lv_room (Nat.le_of_ble_eq_true rfl)) dL_law_776 ⟨Nat.le_of_ble_eq_true rfl, Nat.le_of_ble_eq_true rfl⟩) [0, 17] rfl (by decide) (fun _ => (show ([fn, bo] : List Nat) = [fn, bo] from rfl)) (fun rC u H locs hp1 hP hD hS => ?_)
  have hP : va_P D vwCl (lawW cI cJ fn nt aw ap an ae pu ao al co se pv av wya kp ch ac bo ax ay az ab af ag mo me mj mw mp mu ml mq m1 m2 m3 m4 m5 m6 m7 m8 nn mm wo pr ne en ke ow pl bd x xs bs kf ov ln ba op sh ec 0 xb wx wy wt nn mm ke' bd sq fi' gu' le' cs' bA' oV' lk' sp' bs' bo' su' sl' lo' sh' en' ne' wo' pr' ow' pl' wa' tr' fa' ga' la' bz' pz' kz' bb') H := hP
  have hD : va_D (fun q : Nat => s.heap.size ≤ q) (lawW cI cJ fn nt aw ap an ae pu ao al co se pv av wya kp ch ac bo ax ay az ab af ag mo me mj mw mp mu ml mq m1 m2 m3 m4 m5 m6 m7 m8 nn mm wo pr ne en ke ow pl bd x xs bs kf ov ln ba op sh ec 0 xb wx wy wt nn mm ke' bd sq fi' gu' le' cs' bA' oV' lk' sp' bs' bo' su' sl' lo' sh' en' ne' wo' pr' ow' pl' wa' tr' fa' ga' la' bz' pz' kz' bb') := hD
  refine lv_aload_n hx hb dL_law_779 rfl (lv_at hl 2 rfl) ?_
  refine goMI hP hD hS (va_runV (As := []) (rest := [.int rC]) ⟨hx, hb, hml, hown, hts⟩ (kX7_raze l D cI cJ mo nn mm me mj mw mp mu ke' bd ml sq mq fi' gu' le' cs' bA' oV' m1 m2 m3 m4 lk' sp' bs' bo' m5 m6 m7 su' sl' m8 lo' sh') (cwV 0 hts gL_law_X7_raze rfl rfl rfl kdX7_raze ⟨Nat.le_of_ble_eq_true rfl, Nat.le_of_ble_eq_true rfl⟩) (preMV hK hN hP hD 24 (ci := 7) rfl rfl rfl [24] rfl (by decide)) rfl rfl hl.1 rfl (lv_room (Nat.le_of_ble_eq_true rfl)) dL_law_780 ⟨Nat.le_of_ble_eq_true rfl, Nat.le_of_ble_eq_true rfl⟩) [24] rfl (by decide) (fun _ => (show ([mo] : List Nat) = [mo] from rfl)) (fun rM u2 H locs hp2 hP hD hS => ?_)
  have hP : va_P D vwCl (lawW cI cJ fn nt aw ap an ae pu ao al co se pv av wya kp ch ac bo ax ay az ab af ag mo me mj mw mp mu ml mq m1 m2 m3 m4 m5 m6 m7 m8 nn mm wo pr ne en ke ow pl bd x xs bs kf ov ln ba op sh ec 0 xb wx wy wt nn mm ke' bd 0 fi' gu' le' cs' bA' oV' lk' sp' bs' bo' su' sl' lo' sh' en' ne' wo' pr' ow' pl' wa' tr' fa' ga' la' bz' pz' kz' bb') H := hP
  have hD : va_D (fun q : Nat => s.heap.size ≤ q) (lawW cI cJ fn nt aw ap an ae pu ao al co se pv av wya kp ch ac bo ax ay az ab af ag mo me mj mw mp mu ml mq m1 m2 m3 m4 m5 m6 m7 m8 nn mm wo pr ne en ke ow pl bd x xs bs kf ov ln ba op sh ec 0 xb wx wy wt nn mm ke' bd 0 fi' gu' le' cs' bA' oV' lk' sp' bs' bo' su' sl' lo' sh' en' ne' wo' pr' ow' pl' wa' tr' fa' ga' la' bz' pz' kz' bb') := hD
  refine lv_icmp_eq (tgt := 811) hx hb dL_law_783 (by decide) (fun _ => ?_) (fun hdif => absurd (by rw [show rC = _ from hp1, show rM = _ from hp2]) hdif)
  exact kk _ _ _ _ _ _ _ _ _ _ _ _ _ _ _ _ _ _ _ _ _ _ _ _ _ _ _ _ _ _ _ _ _ _ _ _ _ _ _ _ _ _ _ _ _ _ _ _ _ _ _ _ _ _ _ _ _ _ _ H locs (inv_raze hinv) hP hD hS
set_option maxHeartbeats 4000000 in
set_option maxRecDepth 100000 in
theorem law_board (C0 : lw_At p s m meth c b L xv) (hL : L ≤ 3584) (hi : i + 7 ≤ L) (hK : va_K D vwCl (aT cI cJ) s) (hN : NW s) {a1 : Int32} (h1 : xv (nI i + nI 1).toNatClampNeg = a1) (hinv : INV nn mm wo pr ne en ke ow pl bd sq wx wy wt nn' mm' ke' bd' sq' en' ne' wo' pr' ow' pl' wa') (hP : va_P D vwCl (lawW cI cJ fn nt aw ap an ae pu ao al co se pv av wya kp ch ac bo ax ay az ab af ag mo me mj mw mp mu ml mq m1 m2 m3 m4 m5 m6 m7 m8 nn mm wo pr ne en ke ow pl bd x xs bs kf ov ln ba op sh ec sq xb wx wy wt nn' mm' ke' bd' sq' fi' gu' le' cs' bA' oV' lk' sp' bs' bo' su' sl' lo' sh' en' ne' wo' pr' ow' pl' wa' tr' fa' ga' la' bz' pz' kz' bb') H) (hD : va_D (fun q : Nat => s.heap.size ≤ q) (lawW cI cJ fn nt aw ap an ae pu ao al co se pv av wya kp ch ac bo ax ay az ab af ag mo me mj mw mp mu ml mq m1 m2 m3 m4 m5 m6 m7 m8 nn mm wo pr ne en ke ow pl bd x xs bs kf ov ln ba op sh ec sq xb wx wy wt nn' mm' ke' bd' sq' fi' gu' le' cs' bA' oV' lk' sp' bs' bo' su' sl' lo' sh' en' ne' wo' pr' ow' pl' wa' tr' fa' ga' la' bz' pz' kz' bb')) (hS : va_S (fun q : Nat => s.heap.size ≤ q) s.heap H locs) (hl : lv_has ls 4 [(0, .ref b), (1, .ref fn), (2, .ref mo), (3, .int (nI i))]) (kk : LawGo p l e s m below meth c b D cI cJ fn nt aw ap an ae pu ao al co se pv av wya kp ch ac bo ax ay az ab af ag mo me mj mw mp mu ml mq m1 m2 m3 m4 m5 m6 m7 m8 ls) : W p l e room_1 s m #[Value.ref b] below meth c H locs 40 5473 (lw_Z below #[Value.ref b] s) (F0 m 788 ls []) := by
  obtain ⟨hx, hb, hr, hml, hown, hts0, hX, hbl0, hlocks, hgv⟩ := id C0
  have hown : s.vm.findClass RL = some m.cls := hown
  have hb : c.code = cL_law := hb
  have hts : ∀ w ∈ wsL_law, w.before #[Value.ref b] s = true := fun w hw => hts0 w (wsL_law_in w hw)
  have hbA : ¬ (fun q : Nat => s.heap.size ≤ q) b := Nat.not_le.mpr hbl0
  obtain ⟨e1, e2, e3, e4, hm24, hsq, ⟨b0, p0, q0, hs⟩, ⟨o0, hpur⟩, hke, hen, hpl, hw⟩ := id hinv
  have e1 := e1.symm
  have e2 := e2.symm
  have e3 := e3.symm
  have e4 := e4.symm
  subst e1 e2 e3 e4
  obtain ⟨hn1, hn10, hpr, hne, hwo, hbl, hpc1, hpc9, hqc1, hqc9, hbd, hb1, hb2⟩ := id hs
  obtain ⟨ho, hoN, hkeE⟩ := id hpur
  obtain ⟨w, hw61⟩ : ∃ w : Nat, w = 61 := ⟨_, rfl⟩
  obtain ⟨yC, hyC⟩ : ∃ y : Bs, y = brnL wx wy wt sq 24 1 (brn0 xb.2.2.1 xb.2.2.2.1 xb.2.2.2.2) := ⟨_, rfl⟩
  obtain ⟨yM, hyM⟩ : ∃ y : RBt, y = runA w wa' sq (run0 bb') 24 := ⟨_, rfl⟩
  refine lv_aload_n hx hb dL_law_788 rfl (lv_at hl 1 rfl) ?_
  refine lv_aload_n hx hb dL_law_789 rfl (lv_at hl 0 rfl) ?_
  refine lv_iload_n hx hb dL_law_790 rfl (lv_at hl 3 rfl) ?_
  refine lv_iconst (v := 1) hx hb dL_law_791 (by decide) ?_
  refine lv_iadd hx hb dL_law_792 ?_
  refine law_arg hx hb hX hbl0 hbA hS hi hL (j := 1) (by decide) rfl h1 dL_law_793 ?_
  refine goMI hP hD hS (va_runV (As := [.int a1]) (rest := []) ⟨hx, hb, hml, hown, hts⟩ (kX6_board l D cI cJ fn nt pu al co se ch bo bd sq ax ay az ab af ag wx wy wt xb a1 yC hsq hyC) (cwV 1 hts gL_law_X6_board rfl rfl rfl kdX6_board ⟨Nat.le_of_ble_eq_true rfl, Nat.le_of_ble_eq_true rfl⟩) (preMV hK hN hP hD 0 (ci := 6) rfl rfl rfl [0, 17, 18, 19, 20, 21, 22, 23] rfl (by decide)) rfl rfl hl.1 rfl (lv_room (Nat.le_of_ble_eq_true rfl)) dL_law_794 ⟨Nat.le_of_ble_eq_true rfl, Nat.le_of_ble_eq_true rfl⟩) [0, 17, 18, 19, 20, 21, 22, 23] rfl (by decide) (fun _ => (show ([fn, bo, ax, ay, az, ab, af, ag] : List Nat) = [fn, bo, ax, ay, az, ab, af, ag] from rfl)) (fun rC u H locs hp1 hP hD hS => ?_)
  have hP : va_P D vwCl (lawW cI cJ fn nt aw ap an ae pu ao al co se pv av wya kp ch ac bo ax ay az ab af ag mo me mj mw mp mu ml mq m1 m2 m3 m4 m5 m6 m7 m8 nn mm wo pr ne en ke ow pl bd x xs bs kf ov ln ba op sh ec sq u wx wy wt nn mm ke' bd sq fi' gu' le' cs' bA' oV' lk' sp' bs' bo' su' sl' lo' sh' en' ne' wo' pr' ow' pl' wa' tr' fa' ga' la' bz' pz' kz' bb') H := hP
  have hD : va_D (fun q : Nat => s.heap.size ≤ q) (lawW cI cJ fn nt aw ap an ae pu ao al co se pv av wya kp ch ac bo ax ay az ab af ag mo me mj mw mp mu ml mq m1 m2 m3 m4 m5 m6 m7 m8 nn mm wo pr ne en ke ow pl bd x xs bs kf ov ln ba op sh ec sq u wx wy wt nn mm ke' bd sq fi' gu' le' cs' bA' oV' lk' sp' bs' bo' su' sl' lo' sh' en' ne' wo' pr' ow' pl' wa' tr' fa' ga' la' bz' pz' kz' bb') := hD
  refine lv_aload_n hx hb dL_law_797 rfl (lv_at hl 2 rfl) ?_
  refine lv_aload_n hx hb dL_law_798 rfl (lv_at hl 0 rfl) ?_
  refine lv_iload_n hx hb dL_law_799 rfl (lv_at hl 3 rfl) ?_
  refine lv_iconst (v := 1) hx hb dL_law_800 (by decide) ?_
  refine lv_iadd hx hb dL_law_801 ?_
  refine law_arg hx hb hX hbl0 hbA hS hi hL (j := 1) (by decide) rfl h1 dL_law_802 ?_
  refine goMI hP hD hS (va_runV (As := [.int a1]) (rest := [.int rC]) ⟨hx, hb, hml, hown, hts⟩ (kX7_board l D cI cJ mo nn mm me mj mw mp mu ke' bd ml sq mq fi' gu' le' cs' bA' oV' m1 m2 m3 m4 lk' sp' bs' bo' m5 m6 m7 su' sl' m8 lo' sh' wa' bb' a1 w yM hw61 hsq (wall_ok hw) hyM) (cwV 1 hts gL_law_X7_board rfl rfl rfl kdX7_board ⟨Nat.le_of_ble_eq_true rfl, Nat.le_of_ble_eq_true rfl⟩) (preMV hK hN hP hD 24 (ci := 7) rfl rfl rfl [24, 31, 39] rfl (by decide)) rfl rfl hl.1 rfl (lv_room (Nat.le_of_ble_eq_true rfl)) dL_law_803 ⟨Nat.le_of_ble_eq_true rfl, Nat.le_of_ble_eq_true rfl⟩) [24, 31, 39] rfl (by decide) (fun _ => (show ([mo, mq, m8] : List Nat) = [mo, mq, m8] from rfl)) (fun rM u2 H locs hp2 hP hD hS => ?_)
  have hP : va_P D vwCl (lawW cI cJ fn nt aw ap an ae pu ao al co se pv av wya kp ch ac bo ax ay az ab af ag mo me mj mw mp mu ml mq m1 m2 m3 m4 m5 m6 m7 m8 nn mm wo pr ne en ke ow pl bd x xs bs kf ov ln ba op sh ec sq u wx wy wt nn mm ke' bd sq fi' gu' le' cs' bA' oV' lk' sp' bs' bo' su' sl' u2.1 u2.2.1 en' ne' wo' pr' ow' pl' wa' tr' fa' ga' la' bz' pz' kz' u2.2.2) H := hP
  have hD : va_D (fun q : Nat => s.heap.size ≤ q) (lawW cI cJ fn nt aw ap an ae pu ao al co se pv av wya kp ch ac bo ax ay az ab af ag mo me mj mw mp mu ml mq m1 m2 m3 m4 m5 m6 m7 m8 nn mm wo pr ne en ke ow pl bd x xs bs kf ov ln ba op sh ec sq u wx wy wt nn mm ke' bd sq fi' gu' le' cs' bA' oV' lk' sp' bs' bo' su' sl' u2.1 u2.2.1 en' ne' wo' pr' ow' pl' wa' tr' fa' ga' la' bz' pz' kz' u2.2.2) := hD
  refine lv_icmp_eq (tgt := 811) hx hb dL_law_806 (by decide) (fun _ => ?_) (fun hdif => absurd (by rw [show rC = _ from hp1, show rM = _ from hp2]; exact board_ans hw61 (brd_eq hw61 hw _ _ _ _ hyC hyM) a1) hdif)
  exact kk _ _ _ _ _ _ _ _ _ _ _ _ _ _ _ _ _ _ _ _ _ _ _ _ _ _ _ _ _ _ _ _ _ _ _ _ _ _ _ _ _ _ _ _ _ _ _ _ _ _ _ _ _ _ _ _ _ _ _ H locs hinv hP hD hS
end LAW

theorem inv_start : INV 1 0 (fillF (fun _ => 0) 1 10) (fillF (fun _ => 0) 1 10) (fillF (fun _ => 0) 0 10) (fun _ => 0) 0 (fillF (fun _ => 0) 1 8) (fun _ => 0) 500 0 (fun _ => 0) (fun _ => 0) (fun _ => 0) 1 0 false 500 0 (fun _ => 0) (fillF (fun _ => 0) 0 10) (fillF (fun _ => 0) 1 10) (fillF (fun _ => 0) 1 10) (fillF (fun _ => 0) 1 9) (fillF (fun _ => 0) 0 9) (fun _ => 0) := by
  have f1 : ∀ (x : Int32) (n k : Nat), k < n → fillF (fun _ => 0) x n k = x := fun x n k hk => if_pos hk
  refine ⟨rfl, rfl, rfl, rfl, by omega, by omega, ⟨500, fun _ => 1, fun _ => 1, by omega, by omega, fun k _ => rfl, fun k _ => rfl, fun k _ => rfl, fun k hk => ?_, fun k hk => ?_, fun _ _ => (by decide : 1 ≤ 9), fun k hk => ?_, fun _ _ => (by decide : 1 ≤ 9), rfl, by omega, by omega⟩, ⟨fun _ => 1, fun t ht => ?_, fun t h1 h8 => ⟨?_, (by decide : 1 ≤ 20)⟩, ?_⟩, rfl, fun l hl => by omega, fun t ht => ?_, fun k hk => by omega⟩
  · rw [f1 _ _ k (by omega)]
    exact below_0 1
  · rw [f1 _ _ k (by omega)]
    rfl
  · rw [f1 _ _ k (by omega)]
    rfl
  · rw [f1 _ _ t ht, f1 _ _ (t + 1) (by omega)]
  · rw [f1 _ _ t (by omega)]
    rfl
  · exact ⟨fun z => absurd z (by decide), fun z => by cases z⟩
  · rw [f1 _ _ (t + 1) (by omega)]
    exact ⟨rfl, by decide⟩
set_option maxHeartbeats 4000000 in
set_option maxRecDepth 100000 in
/-- the loop: at its head, with i ints read -/
theorem law_loop {p : Program} {l : Launch} {e : Env} {s : State} {m : MethodId} {below : List Frame} {meth : Method} {c : Code} {b L : Nat} {xv : Nat → Int32} {D : va_G} {cI cJ : ClassId} {fn nt aw ap an ae pu ao al co se pv av wya kp ch ac bo ax ay az ab af ag mo me mj mw mp mu ml mq m1 m2 m3 m4 m5 m6 m7 m8 : Nat} (C0 : lw_At p s m meth c b L xv) (hL : L ≤ 3584) (hK : va_K D vwCl (aT cI cJ) s) (hN : NW s) : ∀ (n i : Nat) (ls : Array Slot) (nn mm : Nat) (wo pr ne en : Row) (ke : Int32) (ow pl : Row) (bd : Int32) (x : Cs) (xs : Ss) (bs kf : Int32) (ov : Row) (ln ba op sh : Int32) (ec : Row) (sq : Nat) (xb : Bs) (wx wy wt : Row) (nn' mm' : Nat) (ke' : Bool) (bd' : Int32) (sq' : Nat) (fi' gu' le' cs' : Int32) (bA' : Bool) (oV' lk' : Int32) (sp' : Bool) (bs' bo' su' sl' lo' sh' : Int32) (en' ne' wo' pr' ow' pl' wa' tr' fa' ga' la' bz' pz' kz' bb' : Row) (H : Heap) (locs : List Loc), L + 7 ≤ i + 7 * n → i ≤ 3600 → INV nn mm wo pr ne en ke ow pl bd sq wx wy wt nn' mm' ke' bd' sq' en' ne' wo' pr' ow' pl' wa' → va_P D vwCl (lawW cI cJ fn nt aw ap an ae pu ao al co se pv av wya kp ch ac bo ax ay az ab af ag mo me mj mw mp mu ml mq m1 m2 m3 m4 m5 m6 m7 m8 nn mm wo pr ne en ke ow pl bd x xs bs kf ov ln ba op sh ec sq xb wx wy wt nn' mm' ke' bd' sq' fi' gu' le' cs' bA' oV' lk' sp' bs' bo' su' sl' lo' sh' en' ne' wo' pr' ow' pl' wa' tr' fa' ga' la' bz' pz' kz' bb') H → va_D (fun q : Nat => s.heap.size ≤ q) (lawW cI cJ fn nt aw ap an ae pu ao al co se pv av wya kp ch ac bo ax ay az ab af ag mo me mj mw mp mu ml mq m1 m2 m3 m4 m5 m6 m7 m8 nn mm wo pr ne en ke ow pl bd x xs bs kf ov ln ba op sh ec sq xb wx wy wt nn' mm' ke' bd' sq' fi' gu' le' cs' bA' oV' lk' sp' bs' bo' su' sl' lo' sh' en' ne' wo' pr' ow' pl' wa' tr' fa' ga' la' bz' pz' kz' bb') → va_S (fun q : Nat => s.heap.size ≤ q) s.heap H locs → lv_has ls 4 [(0, .ref b), (1, .ref fn), (2, .ref mo), (3, .int (nI i))] → W p l e room_1 s m #[Value.ref b] below meth c H locs 40 5473 (lw_Z below #[Value.ref b] s) (F0 m 18 ls [])
  | n, i, ls, nn, mm, wo, pr, ne, en, ke, ow, pl, bd, x, xs, bs, kf, ov, ln, ba, op, sh, ec, sq, xb, wx, wy, wt, nn', mm', ke', bd', sq', fi', gu', le', cs', bA', oV', lk', sp', bs', bo', su', sl', lo', sh', en', ne', wo', pr', ow', pl', wa', tr', fa', ga', la', bz', pz', kz', bb', H, locs, hn, hi0, hinv, hP, hD, hS, hl => by
    obtain ⟨hx, hb, hr, hml, hown, hts0, hX, hbl, hlocks, hgv⟩ := id C0
    have hbA : ¬ (fun q : Nat => s.heap.size ≤ q) b := Nat.not_le.mpr hbl
    have hbc : c.code = code := hb
    have hb : c.code = cL_law := hb
    refine lv_iload_n hx hb dL_law_18 rfl (lv_at hl 3 rfl) ?_
    refine lv_aload_n hx hb dL_law_19 rfl (lv_at hl 0 rfl) ?_
    refine va_slen hx hb hX hbl hbA hS dL_law_20 ?_
    refine lv_bipush (v := 7) hx hb dL_law_21 (by decide) ?_
    refine lv_isub hx hb dL_law_23 ?_
    have hcmp : (nI L - nI 7).toInt = (L : Int) - 7 := pk_sub_toInt (by omega) (by omega)
    have hiI : (nI i).toInt = (i : Int) := nI_toInt (by omega)
    refine lv_icmp_gt (tgt := 817) hx hb dL_law_24 (by decide) (fun c0 => ?_) (fun c0 => ?_)
    · refine lv_iconst (v := 1) hx hb dL_law_817 (by decide) ?_
      refine va_forget (fun q hq => hS.2.2 q hq) ?_
      refine W.widen (k := 600000) (n := 7302250) (Nat.le_of_ble_eq_true rfl) (Nat.le_of_ble_eq_true rfl) ?_
      exact lw_ret hx hbc hr hlocks dL_law_818
    have hi : i + 7 ≤ L := by
      refine Nat.not_lt.mp fun q => c0 ?_
      show nI L - nI 7 < nI i
      rw [Int32.lt_iff_toInt_lt, hcmp, hiI]
      omega
    have kk : LawGo p l e s m below meth c b D cI cJ fn nt aw ap an ae pu ao al co se pv av wya kp ch ac bo ax ay az ab af ag mo me mj mw mp mu ml mq m1 m2 m3 m4 m5 m6 m7 m8 ls := by
      intro nn mm wo pr ne en ke ow pl bd x xs bs kf ov ln ba op sh ec sq xb wx wy wt nn' mm' ke' bd' sq' fi' gu' le' cs' bA' oV' lk' sp' bs' bo' su' sl' lo' sh' en' ne' wo' pr' ow' pl' wa' tr' fa' ga' la' bz' pz' kz' bb' H locs hinv hP hD hS
      refine lv_iinc (v := nI (i + 7)) (lv' := [(3, .int (nI (i + 7))), (0, .ref b), (1, .ref fn), (2, .ref mo)]) hx hb dL_law_811 hl (k := 3) rfl (by rw [← nI_add]; rfl) (by decide) rfl (fun ls hl => ?_)
      refine lv_goto (tgt := 18) hx hb dL_law_814 (by decide) ?_
      cases n with
      | zero => omega
      | succ n => exact law_loop C0 hL hK hN n (i + 7) ls nn mm wo pr ne en ke ow pl bd x xs bs kf ov ln ba op sh ec sq xb wx wy wt nn' mm' ke' bd' sq' fi' gu' le' cs' bA' oV' lk' sp' bs' bo' su' sl' lo' sh' en' ne' wo' pr' ow' pl' wa' tr' fa' ga' la' bz' pz' kz' bb' H locs (by omega) (by omega) hinv hP hD hS (lv_sub hl [1, 2, 3, 0] rfl)
    refine lv_aload_n hx hb dL_law_27 rfl (lv_at hl 0 rfl) ?_
    refine lv_iload_n hx hb dL_law_28 rfl (lv_at hl 3 rfl) ?_
    refine va_sld hx hb hX hbl hbA hS (vp_in_nI (by omega) (by omega)) dL_law_29 ?_
    refine lv_bipush (v := 31) hx hb dL_law_30 (by decide) ?_
    refine lv_iand hx hb dL_law_32 ?_
    obtain ⟨j, hj, ej⟩ := pk_andE (xv (nI i).toNatClampNeg) (m := 31) 5 (by decide)
    rw [ej]
    by_cases j0 : j = 0
    · rw [j0]
      refine lv_tableIn (off := 95) (tgt := 128) hx hb dL_law_33 (by decide) (by decide) rfl (by decide) ?_
      exact law_net C0 hL hi hK hN rfl hinv hP hD hS hl kk
    by_cases j1 : j = 1
    · rw [j1]
      refine lv_tableIn (off := 118) (tgt := 151) hx hb dL_law_33 (by decide) (by decide) rfl (by decide) ?_
      exact law_line C0 hL hi hK hN rfl rfl hinv hP hD hS hl kk
    by_cases j2 : j = 2
    · rw [j2]
      refine lv_tableIn (off := 151) (tgt := 184) hx hb dL_law_33 (by decide) (by decide) rfl (by decide) ?_
      exact law_node C0 hL hi hK hN rfl rfl rfl hinv hP hD hS hl kk
    by_cases j3 : j = 3
    · rw [j3]
      refine lv_tableIn (off := 194) (tgt := 227) hx hb dL_law_33 (by decide) (by decide) rfl (by decide) ?_
      exact law_purse C0 hL hi hK hN rfl rfl hinv hP hD hS hl kk
    by_cases j4 : j = 4
    · rw [j4]
      refine lv_tableIn (off := 227) (tgt := 260) hx hb dL_law_33 (by decide) (by decide) rfl (by decide) ?_
      exact law_rule C0 hL hi hK hN rfl rfl hinv hP hD hS hl kk
    by_cases j5 : j = 5
    · rw [j5]
      refine lv_tableIn (off := 260) (tgt := 293) hx hb dL_law_33 (by decide) (by decide) rfl (by decide) ?_
      exact law_count C0 hL hi hK hN rfl hinv hP hD hS hl kk
    by_cases j6 : j = 6
    · rw [j6]
      refine lv_tableIn (off := 283) (tgt := 316) hx hb dL_law_33 (by decide) (by decide) rfl (by decide) ?_
      exact law_plan C0 hL hi hK hN rfl rfl hinv hP hD hS hl kk
    by_cases j7 : j = 7
    · rw [j7]
      refine lv_tableIn (off := 316) (tgt := 349) hx hb dL_law_33 (by decide) (by decide) rfl (by decide) ?_
      exact law_play C0 hL hi hK hN rfl rfl hinv hP hD hS hl kk
    by_cases j8 : j = 8
    · rw [j8]
      refine lv_tableIn (off := 349) (tgt := 382) hx hb dL_law_33 (by decide) (by decide) rfl (by decide) ?_
      exact law_burns C0 hL hi hK hN rfl rfl hinv hP hD hS hl kk
    by_cases j9 : j = 9
    · rw [j9]
      refine lv_tableIn (off := 382) (tgt := 415) hx hb dL_law_33 (by decide) (by decide) rfl (by decide) ?_
      exact law_best C0 hL hi hK hN rfl rfl hinv hP hD hS hl kk
    by_cases j10 : j = 10
    · rw [j10]
      refine lv_tableIn (off := 415) (tgt := 448) hx hb dL_law_33 (by decide) (by decide) rfl (by decide) ?_
      exact law_take C0 hL hi hK hN rfl hinv hP hD hS hl kk
    by_cases j11 : j = 11
    · rw [j11]
      refine lv_tableIn (off := 438) (tgt := 471) hx hb dL_law_33 (by decide) (by decide) rfl (by decide) ?_
      exact law_least C0 hL hi hK hN rfl rfl hinv hP hD hS hl kk
    by_cases j12 : j = 12
    · rw [j12]
      refine lv_tableIn (off := 471) (tgt := 504) hx hb dL_law_33 (by decide) (by decide) rfl (by decide) ?_
      exact law_live C0 hL hi hK hN rfl rfl rfl hinv hP hD hS hl kk
    by_cases j13 : j = 13
    · rw [j13]
      refine lv_tableIn (off := 514) (tgt := 547) hx hb dL_law_33 (by decide) (by decide) rfl (by decide) ?_
      exact law_share C0 hL hi hK hN rfl rfl rfl hinv hP hD hS hl kk
    by_cases j14 : j = 14
    · rw [j14]
      refine lv_tableIn (off := 557) (tgt := 590) hx hb dL_law_33 (by decide) (by decide) rfl (by decide) ?_
      exact law_worst C0 hL hi hK hN rfl hinv hP hD hS hl kk
    by_cases j15 : j = 15
    · rw [j15]
      refine lv_tableIn (off := 580) (tgt := 613) hx hb dL_law_33 (by decide) (by decide) rfl (by decide) ?_
      exact law_mean C0 hL hi hK hN rfl rfl rfl hinv hP hD hS hl kk
    by_cases j16 : j = 16
    · rw [j16]
      refine lv_tableIn (off := 623) (tgt := 656) hx hb dL_law_33 (by decide) (by decide) rfl (by decide) ?_
      exact law_chance C0 hL hi hK hN rfl rfl rfl rfl rfl rfl hinv hP hD hS hl kk
    by_cases j17 : j = 17
    · rw [j17]
      refine lv_tableIn (off := 699) (tgt := 732) hx hb dL_law_33 (by decide) (by decide) rfl (by decide) ?_
      exact law_wall C0 hL hi hK hN rfl rfl rfl hinv hP hD hS hl kk
    by_cases j18 : j = 18
    · rw [j18]
      refine lv_tableIn (off := 742) (tgt := 775) hx hb dL_law_33 (by decide) (by decide) rfl (by decide) ?_
      exact law_raze C0 hL hi hK hN hinv hP hD hS hl kk
    by_cases j19 : j = 19
    · rw [j19]
      refine lv_tableIn (off := 755) (tgt := 788) hx hb dL_law_33 (by decide) (by decide) rfl (by decide) ?_
      exact law_board C0 hL hi hK hN rfl hinv hP hD hS hl kk
    refine lv_tableOut (tgt := 811) hx hb dL_law_33 (Or.inr (by rw [nI_toInt (by omega)]; omega)) (by decide) ?_
    exact kk nn mm wo pr ne en ke ow pl bd x xs bs kf ov ln ba op sh ec sq xb wx wy wt nn' mm' ke' bd' sq' fi' gu' le' cs' bA' oV' lk' sp' bs' bo' su' sl' lo' sh' en' ne' wo' pr' ow' pl' wa' tr' fa' ga' la' bz' pz' kz' bb' H locs hinv hP hD hS
theorem nwL_in : ∀ w ∈ nwL, w ∈ lw_tbl := by decide +kernel
set_option maxHeartbeats 4000000 in
set_option maxRecDepth 100000 in
/-- the law, from its entry -/
theorem whole_start {p : Program} {e : Env} {s : State} {m : MethodId} {below : List Frame} {meth : Method} {c : Code} (l : Launch) (hflags : l.flags = flags0) {b L : Nat} {xv : Nat → Int32} (hL : L ≤ 3584) (C0 : lw_At p s m meth c b L xv) : W p l e room_1 s m #[Value.ref b] below meth c s.heap [] 0 0 (lw_Z below #[Value.ref b] s) (entryFrame m ([Value.ref b] : List Value).toArray 4) := by
  obtain ⟨hx, hb, hr, hml, hown, hts0, hX, hbl, hlocks, hgv⟩ := id C0
  have hown : s.vm.findClass RL = some m.cls := hown
  have hb : c.code = cL_law := hb
  have hts : ∀ w ∈ wsL_law, w.before #[Value.ref b] s = true := fun w hw => hts0 w (wsL_law_in w hw)
  have hA : ∀ q : Nat, s.heap.size ≤ q → (fun q : Nat => s.heap.size ≤ q) q := fun _ h => h
  obtain ⟨c0, i0, hk0⟩ := u_known (C := RX0) (T := TX0) (N := 9) (n := 9) hts inlX0 (hts (Cond.instantiable RX0 9) (List.mem_of_getElem? (i := 35) (by decide +kernel)))
  obtain ⟨c1, i1, hk1⟩ := u_known (C := RX1) (T := TX1) (N := 5) (n := 5) hts inlX1 (hts (Cond.instantiable RX1 5) (List.mem_of_getElem? (i := 31) (by decide +kernel)))
  obtain ⟨c2, i2, hk2⟩ := u_known (C := RX2) (T := TX2) (N := 7) (n := 7) hts inlX2 (hts (Cond.instantiable RX2 7) (List.mem_of_getElem? (i := 23) (by decide +kernel)))
  obtain ⟨c3, i3, hk3⟩ := u_known (C := RX3) (T := TX3) (N := 6) (n := 6) hts inlX3 (hts (Cond.instantiable RX3 6) (List.mem_of_getElem? (i := 13) (by decide +kernel)))
  obtain ⟨c4, i4, hk4⟩ := u_known (C := RX4) (T := TX4) (N := 2) (n := 2) hts inlX4 (hts (Cond.instantiable RX4 2) (List.mem_of_getElem? (i := 17) (by decide +kernel)))
  obtain ⟨c5, i5, hk5⟩ := u_known (C := RX5) (T := TX5) (N := 8) (n := 8) hts inlX5 (hts (Cond.instantiable RX5 8) (List.mem_of_getElem? (i := 27) (by decide +kernel)))
  obtain ⟨c6, i6, hk6⟩ := u_known (C := RX6) (T := TX6) (N := 8) (n := 8) hts inlX6 (hts (Cond.instantiable RX6 8) (List.mem_of_getElem? (i := 1) (by decide +kernel)))
  obtain ⟨c7, i7, hk7⟩ := u_known (C := RX7) (T := TX7) (N := 34) (n := 34) hts inlX7 (hts (Cond.instantiable RX7 34) (List.mem_of_getElem? (i := 4) (by decide +kernel)))
  obtain ⟨D, hKc⟩ : ∃ D : va_G, ∀ (k : Nat) (q : vw_C), vwCl[k]? = some q → u_Kn s q.1 q.2.1 q.2.2 (D.1 k) (D.2 k) := by
    refine ⟨(fun k => match k with | 0 => c0 | 1 => c1 | 2 => c2 | 3 => c3 | 4 => c4 | 5 => c5 | 6 => c6 | _ => c7, fun k => match k with | 0 => i0 | 1 => i1 | 2 => i2 | 3 => i3 | 4 => i4 | 5 => i5 | 6 => i6 | _ => i7), ?_⟩
    intro k q hq
    match k, hq with
    | 0, hq => cases hq; exact hk0
    | 1, hq => cases hq; exact hk1
    | 2, hq => cases hq; exact hk2
    | 3, hq => cases hq; exact hk3
    | 4, hq => cases hq; exact hk4
    | 5, hq => cases hq; exact hk5
    | 6, hq => cases hq; exact hk6
    | 7, hq => cases hq; exact hk7
    | k + 8, hq => simp [vwCl] at hq
  obtain ⟨cI, kI, pI, hI1, hI2, hI3⟩ := Cond.arrayClass_spec (hts (Cond.arrayClass .int) (List.mem_of_getElem? (i := 20) (by decide +kernel)))
  obtain ⟨cJ, kJ, pJ, hJ1, hJ2, hJ3⟩ := Cond.arrayClass_spec (hts (Cond.arrayClass .long) (List.mem_of_getElem? (i := 87) (by decide +kernel)))
  have hK : va_K D vwCl (aT cI cJ) s := by
    refine ⟨hKc, fun k q h => ?_⟩
    match k, h with
    | 0, h => cases h; exact ⟨fun n z => ⟨fun k h => (by cases h), kI, hI2, pI, hI3⟩, hI1⟩
    | 1, h => cases h; exact ⟨fun n z => ⟨fun k h => (by cases h), kJ, hJ2, pJ, hJ3⟩, hJ1⟩
    | k + 2, h => simp [aT] at h
  have hN : NW s := NW.of (args := #[Value.ref b]) (fun w hw => hts0 w (nwL_in w hw))
  have hS : va_S (fun q : Nat => s.heap.size ≤ q) s.heap s.heap [] := va_S.rf
  have hP : va_P D vwCl [] s.heap := fun k q h => by simp at h
  have hD : va_D (fun q : Nat => s.heap.size ≤ q) [] := ⟨fun i j p q h => by simp at h, fun k q h => by simp at h⟩
  have hl := lv_entry ([.ref b]) (n := 4) (Nat.le_of_ble_eq_true rfl)
  rw [lg_entry_eq]
  generalize (lg_sl ([.ref b]) ++ List.replicate (4 - (lg_sl ([.ref b])).length) Slot.unset).toArray = ls at hl ⊢
  have hl : lv_has ls 4 [(0, .ref b)] := hl
  refine va_new (D := D) (ci := 6) (fs := [.null, .null, .null, .null, .null, .null, .null, .int 0]) (C := RX6) (T := TX6) (N := 8) hx hb hts inlX6 tyX6 tyX6_ok hown (hts (Cond.classLink RL 7 RX6) (List.mem_of_getElem? (i := 0) (by decide +kernel))) (hts (Cond.instantiable RX6 8) (List.mem_of_getElem? (i := 1) (by decide +kernel))) (hts (Cond.initialized RX6) (List.mem_of_getElem? (i := 2) (by decide +kernel))) hK hP hD hS hA rfl (fun j hj => by rcases (show j = 0 ∨ j = 1 ∨ j = 2 ∨ j = 3 ∨ j = 4 ∨ j = 5 ∨ j = 6 ∨ j = 7 by omega) with rfl | rfl | rfl | rfl | rfl | rfl | rfl | rfl <;> rfl) (Nat.le_of_ble_eq_true rfl) (Nat.le_of_ble_eq_true rfl) dL_law_0 (fun fn H hP hD hS => ?_)
  have hP : va_P D vwCl [(fn, .inr (6, [.null, .null, .null, .null, .null, .null, .null, .int 0]))] H := hP
  have hD : va_D (fun q : Nat => s.heap.size ≤ q) [(fn, .inr (6, [.null, .null, .null, .null, .null, .null, .null, .int 0]))] := hD
  refine W.widen (k := 1) (n := 8) (Nat.le_of_ble_eq_true rfl) (Nat.le_of_ble_eq_true rfl) ?_
  refine lv_dup hx hb dL_law_3 rfl ?_
  refine goC hP hD hS hA (va_runI (As := []) (rest := [.ref fn]) ⟨hx, hb, hml, hown, hts⟩ (kX6_init l D cI cJ fn H.size) (cwI 0 hts gL_law_X6_init rfl rfl rfl (hts (Cond.initialized RX6) (List.mem_of_getElem? (i := 2) (by decide +kernel))) (hts (Cond.methodLink RL 9 yX6_init) (List.mem_of_getElem? (i := 6) (by decide +kernel))) (hts (Cond.instanceMethod yX6_init) (List.mem_of_getElem? (i := 7) (by decide +kernel))) rfl kdX6_init.2 ⟨Nat.le_of_ble_eq_true rfl, Nat.le_of_ble_eq_true rfl⟩) (preC hK hN hP hD [0] rfl (by decide)) rfl rfl hl.1 rfl (lv_room (Nat.le_of_ble_eq_true rfl)) dL_law_4 ⟨Nat.le_of_ble_eq_true rfl, Nat.le_of_ble_eq_true rfl⟩) [0] [] (wr := []) rfl rfl (by decide) (by decide) (fun u H locs hP hD hS => ?_)
  obtain ⟨nt, aw, ap, an, ae, pu, ao, al, co, se, pv, av, wya, kp, ch, ac, bo, ax, ay, az, ab, af, ag⟩ := u
  have hP : va_P D vwCl [(fn, .inr (6, [.ref nt, .ref pu, .ref al, .ref co, .ref se, .ref ch, .ref bo, .int 500])), (nt, .inr (3, [.int (nI 1), .int (nI 0), .ref aw, .ref ap, .ref an, .ref ae])), (aw, .inl (cI, 10, .inl (fillF (fun _ => 0) 1 10))), (ap, .inl (cI, 10, .inl (fillF (fun _ => 0) 1 10))), (an, .inl (cI, 10, .inl (fillF (fun _ => 0) 0 10))), (ae, .inl (cI, 24, .inl (fun _ => 0))), (pu, .inr (4, [.ref ao, .int 0])), (ao, .inl (cI, 8, .inl (fillF (fun _ => 0) 1 8))), (al, .inl (cI, 8, .inl (fun _ => 0))), (co, .inr (2, [.int 0, .int 0, .int 0, .int 0, .int 0, .int 0, .int 0])), (se, .inr (5, [.ref pv, .int 0, .int 0, .int 0, .int 0, .int 0, .ref wya, .ref kp])), (pv, .inr (4, [.ref av, .int 0])), (av, .inl (cI, 8, .inl (fillF (fun _ => 0) 1 8))), (wya, .inl (cI, 8, .inl (fun _ => 0))), (kp, .inl (cI, 8, .inl (fun _ => 0))), (ch, .inr (1, [.ref ac, .int 0, .int 0, .int 0, .int 0])), (ac, .inl (cI, 12, .inl (fun _ => 0))), (bo, .inr (0, [.int 0, .int 0, .int 0, .ref ax, .ref ay, .ref az, .ref ab, .ref af, .ref ag])), (ax, .inl (cI, 40, .inl (fun _ => 0))), (ay, .inl (cI, 40, .inl (fun _ => 0))), (az, .inl (cI, 40, .inl (fun _ => 0))), (ab, .inl (cJ, 49, .inr (.inl (fun _ => 0)))), (af, .inl (cJ, 49, .inr (.inl (fun _ => 0)))), (ag, .inl (cJ, 49, .inr (.inl (fun _ => 0))))] H := hP
  have hD : va_D (fun q : Nat => s.heap.size ≤ q) [(fn, .inr (6, [.ref nt, .ref pu, .ref al, .ref co, .ref se, .ref ch, .ref bo, .int 500])), (nt, .inr (3, [.int (nI 1), .int (nI 0), .ref aw, .ref ap, .ref an, .ref ae])), (aw, .inl (cI, 10, .inl (fillF (fun _ => 0) 1 10))), (ap, .inl (cI, 10, .inl (fillF (fun _ => 0) 1 10))), (an, .inl (cI, 10, .inl (fillF (fun _ => 0) 0 10))), (ae, .inl (cI, 24, .inl (fun _ => 0))), (pu, .inr (4, [.ref ao, .int 0])), (ao, .inl (cI, 8, .inl (fillF (fun _ => 0) 1 8))), (al, .inl (cI, 8, .inl (fun _ => 0))), (co, .inr (2, [.int 0, .int 0, .int 0, .int 0, .int 0, .int 0, .int 0])), (se, .inr (5, [.ref pv, .int 0, .int 0, .int 0, .int 0, .int 0, .ref wya, .ref kp])), (pv, .inr (4, [.ref av, .int 0])), (av, .inl (cI, 8, .inl (fillF (fun _ => 0) 1 8))), (wya, .inl (cI, 8, .inl (fun _ => 0))), (kp, .inl (cI, 8, .inl (fun _ => 0))), (ch, .inr (1, [.ref ac, .int 0, .int 0, .int 0, .int 0])), (ac, .inl (cI, 12, .inl (fun _ => 0))), (bo, .inr (0, [.int 0, .int 0, .int 0, .ref ax, .ref ay, .ref az, .ref ab, .ref af, .ref ag])), (ax, .inl (cI, 40, .inl (fun _ => 0))), (ay, .inl (cI, 40, .inl (fun _ => 0))), (az, .inl (cI, 40, .inl (fun _ => 0))), (ab, .inl (cJ, 49, .inr (.inl (fun _ => 0)))), (af, .inl (cJ, 49, .inr (.inl (fun _ => 0)))), (ag, .inl (cJ, 49, .inr (.inl (fun _ => 0))))] := hD
  refine W.widen (k := 24) (n := 420) (Nat.le_of_ble_eq_true rfl) (Nat.le_of_ble_eq_true rfl) ?_
  refine lv_astore_n (lv' := [(1, .ref fn), (0, .ref b)]) hx hb dL_law_7 rfl hl (by decide) rfl (fun ls hl => ?_)
  refine va_new (D := D) (ci := 7) (fs := [.int 0, .int 0, .null, .null, .null, .null, .null, .int 0, .int 0, .null, .int 0, .null, .int 0, .int 0, .int 0, .int 0, .int 0, .int 0, .null, .null, .null, .null, .int 0, .int 0, .int 0, .int 0, .null, .null, .null, .int 0, .int 0, .null, .int 0, .int 0]) (C := RX7) (T := TX7) (N := 34) hx hb hts inlX7 tyX7 tyX7_ok hown (hts (Cond.classLink RL 10 RX7) (List.mem_of_getElem? (i := 3) (by decide +kernel))) (hts (Cond.instantiable RX7 34) (List.mem_of_getElem? (i := 4) (by decide +kernel))) (hts (Cond.initialized RX7) (List.mem_of_getElem? (i := 5) (by decide +kernel))) hK hP hD hS hA rfl (fun j hj => by rcases (show j = 0 ∨ j = 1 ∨ j = 2 ∨ j = 3 ∨ j = 4 ∨ j = 5 ∨ j = 6 ∨ j = 7 ∨ j = 8 ∨ j = 9 ∨ j = 10 ∨ j = 11 ∨ j = 12 ∨ j = 13 ∨ j = 14 ∨ j = 15 ∨ j = 16 ∨ j = 17 ∨ j = 18 ∨ j = 19 ∨ j = 20 ∨ j = 21 ∨ j = 22 ∨ j = 23 ∨ j = 24 ∨ j = 25 ∨ j = 26 ∨ j = 27 ∨ j = 28 ∨ j = 29 ∨ j = 30 ∨ j = 31 ∨ j = 32 ∨ j = 33 by omega) with rfl | rfl | rfl | rfl | rfl | rfl | rfl | rfl | rfl | rfl | rfl | rfl | rfl | rfl | rfl | rfl | rfl | rfl | rfl | rfl | rfl | rfl | rfl | rfl | rfl | rfl | rfl | rfl | rfl | rfl | rfl | rfl | rfl | rfl <;> rfl) (Nat.le_of_ble_eq_true rfl) (Nat.le_of_ble_eq_true rfl) dL_law_8 (fun mo H hP hD hS => ?_)
  have hP : va_P D vwCl [(fn, .inr (6, [.ref nt, .ref pu, .ref al, .ref co, .ref se, .ref ch, .ref bo, .int 500])), (nt, .inr (3, [.int (nI 1), .int (nI 0), .ref aw, .ref ap, .ref an, .ref ae])), (aw, .inl (cI, 10, .inl (fillF (fun _ => 0) 1 10))), (ap, .inl (cI, 10, .inl (fillF (fun _ => 0) 1 10))), (an, .inl (cI, 10, .inl (fillF (fun _ => 0) 0 10))), (ae, .inl (cI, 24, .inl (fun _ => 0))), (pu, .inr (4, [.ref ao, .int 0])), (ao, .inl (cI, 8, .inl (fillF (fun _ => 0) 1 8))), (al, .inl (cI, 8, .inl (fun _ => 0))), (co, .inr (2, [.int 0, .int 0, .int 0, .int 0, .int 0, .int 0, .int 0])), (se, .inr (5, [.ref pv, .int 0, .int 0, .int 0, .int 0, .int 0, .ref wya, .ref kp])), (pv, .inr (4, [.ref av, .int 0])), (av, .inl (cI, 8, .inl (fillF (fun _ => 0) 1 8))), (wya, .inl (cI, 8, .inl (fun _ => 0))), (kp, .inl (cI, 8, .inl (fun _ => 0))), (ch, .inr (1, [.ref ac, .int 0, .int 0, .int 0, .int 0])), (ac, .inl (cI, 12, .inl (fun _ => 0))), (bo, .inr (0, [.int 0, .int 0, .int 0, .ref ax, .ref ay, .ref az, .ref ab, .ref af, .ref ag])), (ax, .inl (cI, 40, .inl (fun _ => 0))), (ay, .inl (cI, 40, .inl (fun _ => 0))), (az, .inl (cI, 40, .inl (fun _ => 0))), (ab, .inl (cJ, 49, .inr (.inl (fun _ => 0)))), (af, .inl (cJ, 49, .inr (.inl (fun _ => 0)))), (ag, .inl (cJ, 49, .inr (.inl (fun _ => 0)))), (mo, .inr (7, [.int 0, .int 0, .null, .null, .null, .null, .null, .int 0, .int 0, .null, .int 0, .null, .int 0, .int 0, .int 0, .int 0, .int 0, .int 0, .null, .null, .null, .null, .int 0, .int 0, .int 0, .int 0, .null, .null, .null, .int 0, .int 0, .null, .int 0, .int 0]))] H := hP
  have hD : va_D (fun q : Nat => s.heap.size ≤ q) [(fn, .inr (6, [.ref nt, .ref pu, .ref al, .ref co, .ref se, .ref ch, .ref bo, .int 500])), (nt, .inr (3, [.int (nI 1), .int (nI 0), .ref aw, .ref ap, .ref an, .ref ae])), (aw, .inl (cI, 10, .inl (fillF (fun _ => 0) 1 10))), (ap, .inl (cI, 10, .inl (fillF (fun _ => 0) 1 10))), (an, .inl (cI, 10, .inl (fillF (fun _ => 0) 0 10))), (ae, .inl (cI, 24, .inl (fun _ => 0))), (pu, .inr (4, [.ref ao, .int 0])), (ao, .inl (cI, 8, .inl (fillF (fun _ => 0) 1 8))), (al, .inl (cI, 8, .inl (fun _ => 0))), (co, .inr (2, [.int 0, .int 0, .int 0, .int 0, .int 0, .int 0, .int 0])), (se, .inr (5, [.ref pv, .int 0, .int 0, .int 0, .int 0, .int 0, .ref wya, .ref kp])), (pv, .inr (4, [.ref av, .int 0])), (av, .inl (cI, 8, .inl (fillF (fun _ => 0) 1 8))), (wya, .inl (cI, 8, .inl (fun _ => 0))), (kp, .inl (cI, 8, .inl (fun _ => 0))), (ch, .inr (1, [.ref ac, .int 0, .int 0, .int 0, .int 0])), (ac, .inl (cI, 12, .inl (fun _ => 0))), (bo, .inr (0, [.int 0, .int 0, .int 0, .ref ax, .ref ay, .ref az, .ref ab, .ref af, .ref ag])), (ax, .inl (cI, 40, .inl (fun _ => 0))), (ay, .inl (cI, 40, .inl (fun _ => 0))), (az, .inl (cI, 40, .inl (fun _ => 0))), (ab, .inl (cJ, 49, .inr (.inl (fun _ => 0)))), (af, .inl (cJ, 49, .inr (.inl (fun _ => 0)))), (ag, .inl (cJ, 49, .inr (.inl (fun _ => 0)))), (mo, .inr (7, [.int 0, .int 0, .null, .null, .null, .null, .null, .int 0, .int 0, .null, .int 0, .null, .int 0, .int 0, .int 0, .int 0, .int 0, .int 0, .null, .null, .null, .null, .int 0, .int 0, .int 0, .int 0, .null, .null, .null, .int 0, .int 0, .null, .int 0, .int 0]))] := hD
  refine W.widen (k := 25) (n := 454) (Nat.le_of_ble_eq_true rfl) (Nat.le_of_ble_eq_true rfl) ?_
  refine lv_dup hx hb dL_law_11 rfl ?_
  refine goC hP hD hS hA (va_runI (As := []) (rest := [.ref mo]) ⟨hx, hb, hml, hown, hts⟩ (kX7_init l D cI cJ mo H.size) (cwI 0 hts gL_law_X7_init rfl rfl rfl (hts (Cond.initialized RX7) (List.mem_of_getElem? (i := 5) (by decide +kernel))) (hts (Cond.methodLink RL 12 yX7_init) (List.mem_of_getElem? (i := 91) (by decide +kernel))) (hts (Cond.instanceMethod yX7_init) (List.mem_of_getElem? (i := 92) (by decide +kernel))) rfl kdX7_init.2 ⟨Nat.le_of_ble_eq_true rfl, Nat.le_of_ble_eq_true rfl⟩) (preC hK hN hP hD [24] rfl (by decide)) rfl rfl hl.1 rfl (lv_room (Nat.le_of_ble_eq_true rfl)) dL_law_12 ⟨Nat.le_of_ble_eq_true rfl, Nat.le_of_ble_eq_true rfl⟩) [24] [0, 1, 2, 3, 4, 5, 6, 7, 8, 9, 10, 11, 12, 13, 14, 15, 16, 17, 18, 19, 20, 21, 22, 23] (wr := [(fn, .inr (6, [.ref nt, .ref pu, .ref al, .ref co, .ref se, .ref ch, .ref bo, .int 500])), (nt, .inr (3, [.int (nI 1), .int (nI 0), .ref aw, .ref ap, .ref an, .ref ae])), (aw, .inl (cI, 10, .inl (fillF (fun _ => 0) 1 10))), (ap, .inl (cI, 10, .inl (fillF (fun _ => 0) 1 10))), (an, .inl (cI, 10, .inl (fillF (fun _ => 0) 0 10))), (ae, .inl (cI, 24, .inl (fun _ => 0))), (pu, .inr (4, [.ref ao, .int 0])), (ao, .inl (cI, 8, .inl (fillF (fun _ => 0) 1 8))), (al, .inl (cI, 8, .inl (fun _ => 0))), (co, .inr (2, [.int 0, .int 0, .int 0, .int 0, .int 0, .int 0, .int 0])), (se, .inr (5, [.ref pv, .int 0, .int 0, .int 0, .int 0, .int 0, .ref wya, .ref kp])), (pv, .inr (4, [.ref av, .int 0])), (av, .inl (cI, 8, .inl (fillF (fun _ => 0) 1 8))), (wya, .inl (cI, 8, .inl (fun _ => 0))), (kp, .inl (cI, 8, .inl (fun _ => 0))), (ch, .inr (1, [.ref ac, .int 0, .int 0, .int 0, .int 0])), (ac, .inl (cI, 12, .inl (fun _ => 0))), (bo, .inr (0, [.int 0, .int 0, .int 0, .ref ax, .ref ay, .ref az, .ref ab, .ref af, .ref ag])), (ax, .inl (cI, 40, .inl (fun _ => 0))), (ay, .inl (cI, 40, .inl (fun _ => 0))), (az, .inl (cI, 40, .inl (fun _ => 0))), (ab, .inl (cJ, 49, .inr (.inl (fun _ => 0)))), (af, .inl (cJ, 49, .inr (.inl (fun _ => 0)))), (ag, .inl (cJ, 49, .inr (.inl (fun _ => 0))))]) rfl rfl (by decide) (by decide) (fun u H locs hP hD hS => ?_)
  obtain ⟨y0, y1, y2, y3, y4, y5, y6, y7, y8, y9, y10, y11, y12, y13, y14⟩ := u
  refine W.widen (k := 40) (n := 5473) (Nat.le_of_ble_eq_true rfl) (Nat.le_of_ble_eq_true rfl) ?_
  have hP := hP.sub (ws' := lawW cI cJ fn nt aw ap an ae pu ao al co se pv av wya kp ch ac bo ax ay az ab af ag mo y0 y1 y2 y3 y4 y5 y6 y7 y8 y9 y10 y11 y12 y13 y14 1 0 (fillF (fun _ => 0) 1 10) (fillF (fun _ => 0) 1 10) (fillF (fun _ => 0) 0 10) (fun _ => 0) 0 (fillF (fun _ => 0) 1 8) (fun _ => 0) 500 (0, 0, 0, 0, false, false, 0) (0, 0, 0, false, fun _ => 0, fun _ => 0) 0 0 (fillF (fun _ => 0) 1 8) 0 0 0 0 (fun _ => 0) 0 (0, 0, fun _ => 0, fun _ => 0, fun _ => 0) (fun _ => 0) (fun _ => 0) (fun _ => 0) 1 0 false 500 0 0 0 0 0 false 0 0 false 0 0 0 0 0 0 (fun _ => 0) (fillF (fun _ => 0) 0 10) (fillF (fun _ => 0) 1 10) (fillF (fun _ => 0) 1 10) (fillF (fun _ => 0) 1 9) (fillF (fun _ => 0) 0 9) (fun _ => 0) (fun _ => 0) (fun _ => 0) (fun _ => 0) (fun _ => 0) (fun _ => 0) (fun _ => 0) (fun _ => 0) (fun _ => 0)) [0, 1, 2, 3, 4, 5, 6, 7, 8, 9, 10, 11, 12, 13, 14, 15, 16, 17, 18, 19, 20, 21, 22, 23, 24, 25, 26, 27, 28, 29, 30, 31, 32, 33, 34, 35, 36, 37, 38, 39] rfl
  have hD := hD.sub (ws' := lawW cI cJ fn nt aw ap an ae pu ao al co se pv av wya kp ch ac bo ax ay az ab af ag mo y0 y1 y2 y3 y4 y5 y6 y7 y8 y9 y10 y11 y12 y13 y14 1 0 (fillF (fun _ => 0) 1 10) (fillF (fun _ => 0) 1 10) (fillF (fun _ => 0) 0 10) (fun _ => 0) 0 (fillF (fun _ => 0) 1 8) (fun _ => 0) 500 (0, 0, 0, 0, false, false, 0) (0, 0, 0, false, fun _ => 0, fun _ => 0) 0 0 (fillF (fun _ => 0) 1 8) 0 0 0 0 (fun _ => 0) 0 (0, 0, fun _ => 0, fun _ => 0, fun _ => 0) (fun _ => 0) (fun _ => 0) (fun _ => 0) 1 0 false 500 0 0 0 0 0 false 0 0 false 0 0 0 0 0 0 (fun _ => 0) (fillF (fun _ => 0) 0 10) (fillF (fun _ => 0) 1 10) (fillF (fun _ => 0) 1 10) (fillF (fun _ => 0) 1 9) (fillF (fun _ => 0) 0 9) (fun _ => 0) (fun _ => 0) (fun _ => 0) (fun _ => 0) (fun _ => 0) (fun _ => 0) (fun _ => 0) (fun _ => 0) (fun _ => 0)) [0, 1, 2, 3, 4, 5, 6, 7, 8, 9, 10, 11, 12, 13, 14, 15, 16, 17, 18, 19, 20, 21, 22, 23, 24, 25, 26, 27, 28, 29, 30, 31, 32, 33, 34, 35, 36, 37, 38, 39] (by decide) rfl
  refine lv_astore_n (lv' := [(2, .ref mo), (1, .ref fn), (0, .ref b)]) hx hb dL_law_15 rfl hl (by decide) rfl (fun ls hl => ?_)
  refine lv_iconst (v := 0) hx hb dL_law_16 (by decide) ?_
  refine lv_istore_n (lv' := [(3, .int 0), (2, .ref mo), (1, .ref fn), (0, .ref b)]) hx hb dL_law_17 rfl hl (by decide) rfl (fun ls hl => ?_)
  have hinv : INV 1 0 (fillF (fun _ => 0) 1 10) (fillF (fun _ => 0) 1 10) (fillF (fun _ => 0) 0 10) (fun _ => 0) 0 (fillF (fun _ => 0) 1 8) (fun _ => 0) 500 0 (fun _ => 0) (fun _ => 0) (fun _ => 0) 1 0 false 500 0 (fun _ => 0) (fillF (fun _ => 0) 0 10) (fillF (fun _ => 0) 1 10) (fillF (fun _ => 0) 1 10) (fillF (fun _ => 0) 1 9) (fillF (fun _ => 0) 0 9) (fun _ => 0) := inv_start
  exact law_loop C0 hL hK hN (L + 1) 0 ls _ _ _ _ _ _ _ _ _ _ _ _ _ _ _ _ _ _ _ _ _ _ _ _ _ _ _ _ _ _ _ _ _ _ _ _ _ _ _ _ _ _ _ _ _ _ _ _ _ _ _ _ _ _ _ _ _ _ _ H locs (by omega) (by omega) hinv hP hD hS (lv_sub hl [3, 2, 1, 0] rfl)
set_option maxHeartbeats 4000000 in
theorem lw_walk (l : Launch) (hflags : l.flags = flags0) (b : Addr) (xs : List Int32) : MetFree l x (headSpec (Jvm.Cond.code x code maxLocals ret :: tables_1) room_1) (lw_P b xs) (fun _ _ _ _ _ => True) lw_Q := by
  refine MetFree.of_bodyS (code := code) (maxLocals := maxLocals) (ret := ret) (by decide) ?_ ?_
  · intro args s m h hn
    obtain ⟨meth, c, h1, h2, h3, h4, h5, h6, -, -⟩ := Cond.code_spec hn (atoms_spec (ws := Jvm.Cond.code x code maxLocals ret :: tables_1) h _ List.mem_cons_self)
    exact ⟨meth, c, h1, h2, h3, h4, h5, h6⟩
  · intro p e s m args below meth c s₁ B hml0 hP _
    obtain ⟨rfl, hx, hbd, hgv⟩ := hP
    obtain ⟨scr, harrAt, hlist, hof, hsmall⟩ := hx
    obtain ⟨hcb, hkn, -, -⟩ := State.arrayAt?_spec harrAt
    have hown : s.vm.findClass R_law = some m.cls := findClass_of_methodNamed B.named
    have hts0 : ∀ c ∈ (Jvm.Cond.code x code maxLocals ret :: tables_1), c.before #[Value.ref b] s = true := atoms_spec (ws := Jvm.Cond.code x code maxLocals ret :: tables_1) B.pre
    have hts : ∀ w ∈ lw_tbl, w.before #[Value.ref b] s = true := k2_hts_sels lw_privs (fun w hw => hts0 w (List.mem_cons_of_mem _ hw)) lw_privs_ok
    have hml : c.maxLocals = 4 := B.maxLocals_eq (hts0 _ List.mem_cons_self)
    have X₀ : Stand p l e room_1 s m #[Value.ref b] below meth c s₁ [] 0 0 := Stand.of_body B
    have hh0 : s₁.heap = s.heap := by rw [B.state]; rfl
    have hsz : scr.slots.size = xs.length := by rw [← Array.length_toList, hlist, List.length_map]
    have hval : ∀ j : Nat, j < xs.length → scr.slots[j]? = some (.int (xs.getD j 0)) := fun j hj => by
      rw [← Array.getElem?_toList, hlist]
      simp [hj]
    have hbl : b < s.heap.size := (Array.getElem?_eq_some_iff.mp hcb).1
    have hX : va_X b xs.length (fun j => xs.getD j 0) s s.heap := ⟨scr, hcb, hof, hkn, hsz, hval⟩
    have K : W p l e room_1 s m #[Value.ref b] below meth c s₁.heap [] 0 0 (lw_Z below #[Value.ref b] s) (entryFrame m ([Value.ref b] : List Value).toArray 4) := by
      rw [hh0]
      exact whole_start l hflags hbd ⟨B.exec, B.bytes, B.returns, hml, hown, hts, hX, hbl, B.notSynchronized, hgv⟩
    obtain ⟨t, a1, o, b1, b2, b3⟩ := K s₁ rfl X₀
    exact ⟨t, o, a1, b1, b2, b3⟩
theorem lw_pre_spec {args : Array Value} {s : State} (h : (Jvm.Cond.and given_1 narrow_1).before args s = true) (hr : rest_1_c.before args s = true) : ∃ (b : Addr) (xs : List Int32), lw_P b xs args s := by
  have hs := flat_of_before _ h
  have hq := flat_of_before _ hr
  have hc : (Cond.count 1).before args s = true := hs _ (by decide +kernel)
  have harr : (Cond.arrayOf (.arg 0) .int).before args s = true := hs _ (by decide +kernel)
  have hle : (Cond.le (.length (.arg 0)) (.int 3584)).before args s = true := hs _ (by decide +kernel)
  have hlen : (Cond.isInt (.length (.arg 0))).before args s = true := hq _ (by decide +kernel)
  have hall : (Cond.all (.arg 0) (.isInt (.elem (.arg 0) (.index 0)))).before args s = true := hq _ (by decide +kernel)
  obtain ⟨b, xs, hb, hx⟩ := State.ints_of_pre rfl harr hlen hall
  have hsm : xs.length < 2 ^ 31 := hx.choose_spec.2.2.2
  have hev : (Term.length (.arg 0)).eval args s none [] s = some (.int xs.length.toInt32) := hx.length_eval hb
  have hv := Cond.le_ints hev (show (Term.int 3584).eval args s none [] s = some (.int 3584) from rfl)
  have hd : xs.length.toInt32 ≤ 3584 := by
    simpa [Cond.before, Cond.holds, hv] using hle
  have hN : xs.length ≤ 3584 := (Int32.ofNat_le_ofNat hsm (by decide)).mp (show Int32.ofNat xs.length ≤ Int32.ofNat 3584 from hd)
  exact ⟨b, xs, Cond.one_arg hc (show args[0]? = some (.ref b) from hb), hx, hN, h⟩
theorem lw_comes (l : Launch) (hflags : l.flags = flags0) : Comes l x (Jvm.Cond.code x code maxLocals ret :: tables_1) room_1 (fun tb e args s => Calls_1 tb e args s ∧ rest_1 tb e args s ∧ Pre_1 tb e args s)
    (fun _ _ args s o t => lw_Q args s o t) := by
  intro p e ha hc hk s m args below hf hfit hheap happ hpre
  obtain ⟨b, xs, hP⟩ := lw_pre_spec hpre.2.2 hpre.2.1
  obtain ⟨k, o, h1, h2, h3, hQ⟩ := lw_walk l hflags b xs p e ha hc hk s m args below hf ((Spec.applies_iff_loose hf).mp happ).1 hP trivial
  exact ⟨k, o, h1, h2, h3, hQ⟩
theorem lw_frame {s t : State} {o : Outcome} {args : Array Value} (h : Framed s o t [] 600000 7302250) :
    Framed s o t (fieldLocs frame_1_writes args s ++ arrayLocs frame_1_arrays args s ++ staticLocs frame_1_statics s) 600000 7302250 := h
theorem lw_limb (L : Cond) (hL : ∀ (args : Array Value) (s t : State), L.after args s (.returned (some (.int 1))) t = true) :
    ArmFor flags0 classFile x code maxLocals ret World_1 tables_1 room_1 Calls_1 rest_1 Pre_1
      (fun tb e a s o t => postC L tb e a s o t ∧ Framed s o t (fieldLocs frame_1_writes a s ++ arrayLocs frame_1_arrays a s ++ staticLocs frame_1_statics s) 600000 7302250) := by
  intro l hflags _ _ p e ha hc hk s m args below hf hfit hheap happ hpre
  obtain ⟨k, o, h1, h2, h3, rfl, hF⟩ := lw_comes l hflags p e ha hc hk s m args below hf hfit hheap happ hpre
  exact ⟨k, _, h1, h2, h3, hL args s _, lw_frame hF⟩
theorem i_vc : Claimed_1_1 ∧ Claimed_1_2 := ⟨lw_limb limb_1_1 (fun args s t => by simp [limb_1_1, Cond.after, Cond.holds, Cond.value]), lw_limb limb_1_2 (fun args s t => Cond.after_iff.mpr (by
  first | (rw [show limb_1_2 = Cond.eq .result (.int 1) from rfl, Cond.eq_ints (x := 1) (y := 1) rfl rfl]; simp; done) | (simp [limb_1_2, Cond.value, Term.eval]; done)))⟩


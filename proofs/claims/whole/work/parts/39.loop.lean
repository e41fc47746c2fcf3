/-- the loop at its head, with i ints read, n calls left at most -/
def LoopP (p : Program) (l : Launch) (e : Env) (s : State) (m : MethodId) (below : List Frame) (meth : Method) (c : Code) (b L : Nat) (D : va_G) (cI cJ : ClassId) (fn nt aw ap an ae pu ao al co se pv av wya kp ch ac bo ax ay az ab af ag mo me mj mw mp mu ml mq m1 m2 m3 m4 m5 m6 m7 m8 : Nat) (n : Nat) : Prop := ∀ (i : Nat) (ls : Array Slot) (nn mm : Nat) (wo pr ne en : Row) (ke : Int32) (ow pl : Row) (bd : Int32) (x : Cs) (xs : Ss) (bs kf : Int32) (ov : Row) (ln ba op sh : Int32) (ec : Row) (sq : Nat) (xb : Bs) (wx wy wt : Row) (nn' mm' : Nat) (ke' : Bool) (bd' : Int32) (sq' : Nat) (fi' gu' le' cs' : Int32) (bA' : Bool) (oV' lk' : Int32) (sp' : Bool) (bs' bo' su' sl' lo' sh' : Int32) (en' ne' wo' pr' ow' pl' wa' tr' fa' ga' la' bz' pz' kz' bb' : Row) (H : Heap) (locs : List Loc), L + 7 ≤ i + 7 * n → i ≤ 3600 → INV nn mm wo pr ne en ke ow pl bd sq wx wy wt nn' mm' ke' bd' sq' en' ne' wo' pr' ow' pl' wa' → va_P D vwCl (lawW cI cJ fn nt aw ap an ae pu ao al co se pv av wya kp ch ac bo ax ay az ab af ag mo me mj mw mp mu ml mq m1 m2 m3 m4 m5 m6 m7 m8 nn mm wo pr ne en ke ow pl bd x xs bs kf ov ln ba op sh ec sq xb wx wy wt nn' mm' ke' bd' sq' fi' gu' le' cs' bA' oV' lk' sp' bs' bo' su' sl' lo' sh' en' ne' wo' pr' ow' pl' wa' tr' fa' ga' la' bz' pz' kz' bb') H → va_D (fun q : Nat => s.heap.size ≤ q) (lawW cI cJ fn nt aw ap an ae pu ao al co se pv av wya kp ch ac bo ax ay az ab af ag mo me mj mw mp mu ml mq m1 m2 m3 m4 m5 m6 m7 m8 nn mm wo pr ne en ke ow pl bd x xs bs kf ov ln ba op sh ec sq xb wx wy wt nn' mm' ke' bd' sq' fi' gu' le' cs' bA' oV' lk' sp' bs' bo' su' sl' lo' sh' en' ne' wo' pr' ow' pl' wa' tr' fa' ga' la' bz' pz' kz' bb') → va_S (fun q : Nat => s.heap.size ≤ q) s.heap H locs → lv_has ls 4 [(0, .ref b), (1, .ref fn), (2, .ref mo), (3, .int (nI i))] → W p l e room_1 s m #[Value.ref b] below meth c H locs 40 5473 (lw_Z below #[Value.ref b] s) (F0 m 18 ls [])
set_option maxHeartbeats 4000000 in
set_option maxRecDepth 100000 in
theorem law_step {p : Program} {l : Launch} {e : Env} {s : State} {m : MethodId} {below : List Frame} {meth : Method} {c : Code} {b L : Nat} {xv : Nat → Int32} {D : va_G} {cI cJ : ClassId} {fn nt aw ap an ae pu ao al co se pv av wya kp ch ac bo ax ay az ab af ag mo me mj mw mp mu ml mq m1 m2 m3 m4 m5 m6 m7 m8 : Nat} (C0 : lw_At p s m meth c b L xv) (hL : L ≤ 3584) (hK : va_K D vwCl (aT cI cJ) s) (hN : NW s) (n : Nat) (ih : ∀ k, n = k + 1 → LoopP p l e s m below meth c b L D cI cJ fn nt aw ap an ae pu ao al co se pv av wya kp ch ac bo ax ay az ab af ag mo me mj mw mp mu ml mq m1 m2 m3 m4 m5 m6 m7 m8 k) : LoopP p l e s m below meth c b L D cI cJ fn nt aw ap an ae pu ao al co se pv av wya kp ch ac bo ax ay az ab af ag mo me mj mw mp mu ml mq m1 m2 m3 m4 m5 m6 m7 m8 n := by
    intro i ls nn mm wo pr ne en ke ow pl bd x xs bs kf ov ln ba op sh ec sq xb wx wy wt nn' mm' ke' bd' sq' fi' gu' le' cs' bA' oV' lk' sp' bs' bo' su' sl' lo' sh' en' ne' wo' pr' ow' pl' wa' tr' fa' ga' la' bz' pz' kz' bb' H locs hn hi0 hinv hP hD hS hl
    obtain ⟨hx, hb, hr, hml, hown, hts0, hX, hbl, hlocks, hgv⟩ := id C0
    have hbA : ¬ (fun q : Nat => s.heap.size ≤ q) b := Nat.not_le.mpr hbl
    have hbc : c.code = code := hb
    have hb : c.code = cL_law := hb
    refine lv_iload_n hx hb dL_law_18 rfl (lv_at hl 3 rfl) ?_
    refine lv_aload_n hx hb dL_law_19 rfl (lv_at hl 0 rfl) ?_
    refine va_slen hx hb hX hbl hbA hS dL_law_20 ?_
    refine lv_bipush (v := 7) hx hb dL_law_21 (by decide) ?_
    refine lv_isub hx hb dL_law_23 ?_
    have hcmp : (nI L - nI 7).toInt = (L : Int) - 7 := pk_sub_toInt (by omega) (by omega)
    have hiI : (nI i).toInt = (i : Int) := nI_toInt (by omega)
    refine lv_icmp_gt (tgt := 817) hx hb dL_law_24 (by decide) (fun c0 => ?_) (fun c0 => ?_)
    · refine lv_iconst (v := 1) hx hb dL_law_817 (by decide) ?_
      refine va_forget (fun q hq => hS.2.2 q hq) ?_
      refine W.widen (k := 600000) (n := 7302250) (Nat.le_of_ble_eq_true rfl) (Nat.le_of_ble_eq_true rfl) ?_
      exact lw_ret hx hbc hr hlocks dL_law_818
    have hi : i + 7 ≤ L := by
      refine Nat.not_lt.mp fun q => c0 ?_
      show nI L - nI 7 < nI i
      rw [Int32.lt_iff_toInt_lt, hcmp, hiI]
      omega
    have kk : LawGo p l e s m below meth c b D cI cJ fn nt aw ap an ae pu ao al co se pv av wya kp ch ac bo ax ay az ab af ag mo me mj mw mp mu ml mq m1 m2 m3 m4 m5 m6 m7 m8 ls := by
      intro nn mm wo pr ne en ke ow pl bd x xs bs kf ov ln ba op sh ec sq xb wx wy wt nn' mm' ke' bd' sq' fi' gu' le' cs' bA' oV' lk' sp' bs' bo' su' sl' lo' sh' en' ne' wo' pr' ow' pl' wa' tr' fa' ga' la' bz' pz' kz' bb' H locs hinv hP hD hS
      refine lv_iinc (v := nI (i + 7)) (lv' := [(3, .int (nI (i + 7))), (0, .ref b), (1, .ref fn), (2, .ref mo)]) hx hb dL_law_811 hl (k := 3) rfl (by rw [← nI_add]; rfl) (by decide) rfl (fun ls hl => ?_)
      refine lv_goto (tgt := 18) hx hb dL_law_814 (by decide) ?_
      obtain ⟨k, hk⟩ : ∃ k, n = k + 1 := ⟨n - 1, by omega⟩
      exact ih k hk (i + 7) ls nn mm wo pr ne en ke ow pl bd x xs bs kf ov ln ba op sh ec sq xb wx wy wt nn' mm' ke' bd' sq' fi' gu' le' cs' bA' oV' lk' sp' bs' bo' su' sl' lo' sh' en' ne' wo' pr' ow' pl' wa' tr' fa' ga' la' bz' pz' kz' bb' H locs (by omega) (by omega) hinv hP hD hS (lv_sub hl [1, 2, 3, 0] rfl)
    refine lv_aload_n hx hb dL_law_27 rfl (lv_at hl 0 rfl) ?_
    refine lv_iload_n hx hb dL_law_28 rfl (lv_at hl 3 rfl) ?_
    refine va_sld hx hb hX hbl hbA hS (vp_in_nI (by omega) (by omega)) dL_law_29 ?_
    refine lv_bipush (v := 31) hx hb dL_law_30 (by decide) ?_
    refine lv_iand hx hb dL_law_32 ?_
    obtain ⟨j, hj, ej⟩ := pk_andE (xv (nI i).toNatClampNeg) (m := 31) 5 (by decide)
    rw [ej]
    by_cases j0 : j = 0
    · rw [j0]
      refine lv_tableIn (off := 95) (tgt := 128) hx hb dL_law_33 (by decide) (by decide) rfl (by decide) ?_
      exact law_net C0 hL hi hK hN rfl hinv hP hD hS hl kk
    by_cases j1 : j = 1
    · rw [j1]
      refine lv_tableIn (off := 118) (tgt := 151) hx hb dL_law_33 (by decide) (by decide) rfl (by decide) ?_
      exact law_line C0 hL hi hK hN rfl rfl hinv hP hD hS hl kk
    by_cases j2 : j = 2
    · rw [j2]
      refine lv_tableIn (off := 151) (tgt := 184) hx hb dL_law_33 (by decide) (by decide) rfl (by decide) ?_
      exact law_node C0 hL hi hK hN rfl rfl rfl hinv hP hD hS hl kk
    by_cases j3 : j = 3
    · rw [j3]
      refine lv_tableIn (off := 194) (tgt := 227) hx hb dL_law_33 (by decide) (by decide) rfl (by decide) ?_
      exact law_purse C0 hL hi hK hN rfl rfl hinv hP hD hS hl kk
    by_cases j4 : j = 4
    · rw [j4]
      refine lv_tableIn (off := 227) (tgt := 260) hx hb dL_law_33 (by decide) (by decide) rfl (by decide) ?_
      exact law_rule C0 hL hi hK hN rfl rfl hinv hP hD hS hl kk
    by_cases j5 : j = 5
    · rw [j5]
      refine lv_tableIn (off := 260) (tgt := 293) hx hb dL_law_33 (by decide) (by decide) rfl (by decide) ?_
      exact law_count C0 hL hi hK hN rfl hinv hP hD hS hl kk
    by_cases j6 : j = 6
    · rw [j6]
      refine lv_tableIn (off := 283) (tgt := 316) hx hb dL_law_33 (by decide) (by decide) rfl (by decide) ?_
      exact law_plan C0 hL hi hK hN rfl rfl hinv hP hD hS hl kk
    by_cases j7 : j = 7
    · rw [j7]
      refine lv_tableIn (off := 316) (tgt := 349) hx hb dL_law_33 (by decide) (by decide) rfl (by decide) ?_
      exact law_play C0 hL hi hK hN rfl rfl hinv hP hD hS hl kk
    by_cases j8 : j = 8
    · rw [j8]
      refine lv_tableIn (off := 349) (tgt := 382) hx hb dL_law_33 (by decide) (by decide) rfl (by decide) ?_
      exact law_burns C0 hL hi hK hN rfl rfl hinv hP hD hS hl kk
    by_cases j9 : j = 9
    · rw [j9]
      refine lv_tableIn (off := 382) (tgt := 415) hx hb dL_law_33 (by decide) (by decide) rfl (by decide) ?_
      exact law_best C0 hL hi hK hN rfl rfl hinv hP hD hS hl kk
    by_cases j10 : j = 10
    · rw [j10]
      refine lv_tableIn (off := 415) (tgt := 448) hx hb dL_law_33 (by decide) (by decide) rfl (by decide) ?_
      exact law_take C0 hL hi hK hN rfl hinv hP hD hS hl kk
    by_cases j11 : j = 11
    · rw [j11]
      refine lv_tableIn (off := 438) (tgt := 471) hx hb dL_law_33 (by decide) (by decide) rfl (by decide) ?_
      exact law_least C0 hL hi hK hN rfl rfl hinv hP hD hS hl kk
    by_cases j12 : j = 12
    · rw [j12]
      refine lv_tableIn (off := 471) (tgt := 504) hx hb dL_law_33 (by decide) (by decide) rfl (by decide) ?_
      exact law_live C0 hL hi hK hN rfl rfl rfl hinv hP hD hS hl kk
    by_cases j13 : j = 13
    · rw [j13]
      refine lv_tableIn (off := 514) (tgt := 547) hx hb dL_law_33 (by decide) (by decide) rfl (by decide) ?_
      exact law_share C0 hL hi hK hN rfl rfl rfl hinv hP hD hS hl kk
    by_cases j14 : j = 14
    · rw [j14]
      refine lv_tableIn (off := 557) (tgt := 590) hx hb dL_law_33 (by decide) (by decide) rfl (by decide) ?_
      exact law_worst C0 hL hi hK hN rfl hinv hP hD hS hl kk
    by_cases j15 : j = 15
    · rw [j15]
      refine lv_tableIn (off := 580) (tgt := 613) hx hb dL_law_33 (by decide) (by decide) rfl (by decide) ?_
      exact law_mean C0 hL hi hK hN rfl rfl rfl hinv hP hD hS hl kk
    by_cases j16 : j = 16
    · rw [j16]
      refine lv_tableIn (off := 623) (tgt := 656) hx hb dL_law_33 (by decide) (by decide) rfl (by decide) ?_
      exact law_chance C0 hL hi hK hN rfl rfl rfl rfl rfl rfl hinv hP hD hS hl kk
    by_cases j17 : j = 17
    · rw [j17]
      refine lv_tableIn (off := 699) (tgt := 732) hx hb dL_law_33 (by decide) (by decide) rfl (by decide) ?_
      exact law_wall C0 hL hi hK hN rfl rfl rfl hinv hP hD hS hl kk
    by_cases j18 : j = 18
    · rw [j18]
      refine lv_tableIn (off := 742) (tgt := 775) hx hb dL_law_33 (by decide) (by decide) rfl (by decide) ?_
      exact law_raze C0 hL hi hK hN hinv hP hD hS hl kk
    by_cases j19 : j = 19
    · rw [j19]
      refine lv_tableIn (off := 755) (tgt := 788) hx hb dL_law_33 (by decide) (by decide) rfl (by decide) ?_
      exact law_board C0 hL hi hK hN rfl hinv hP hD hS hl kk
    refine lv_tableOut (tgt := 811) hx hb dL_law_33 (Or.inr (by rw [nI_toInt (by omega)]; omega)) (by decide) ?_
    exact kk nn mm wo pr ne en ke ow pl bd x xs bs kf ov ln ba op sh ec sq xb wx wy wt nn' mm' ke' bd' sq' fi' gu' le' cs' bA' oV' lk' sp' bs' bo' su' sl' lo' sh' en' ne' wo' pr' ow' pl' wa' tr' fa' ga' la' bz' pz' kz' bb' H locs hinv hP hD hS
theorem law_loop {p : Program} {l : Launch} {e : Env} {s : State} {m : MethodId} {below : List Frame} {meth : Method} {c : Code} {b L : Nat} {xv : Nat → Int32} {D : va_G} {cI cJ : ClassId} {fn nt aw ap an ae pu ao al co se pv av wya kp ch ac bo ax ay az ab af ag mo me mj mw mp mu ml mq m1 m2 m3 m4 m5 m6 m7 m8 : Nat} (C0 : lw_At p s m meth c b L xv) (hL : L ≤ 3584) (hK : va_K D vwCl (aT cI cJ) s) (hN : NW s) (n : Nat) : LoopP p l e s m below meth c b L D cI cJ fn nt aw ap an ae pu ao al co se pv av wya kp ch ac bo ax ay az ab af ag mo me mj mw mp mu ml mq m1 m2 m3 m4 m5 m6 m7 m8 n := by
  induction n with
  | zero => exact law_step C0 hL hK hN 0 (fun k h => absurd h.symm (Nat.succ_ne_zero k))
  | succ n ih =>
    refine law_step C0 hL hK hN (n + 1) (fun k h => ?_)
    cases Nat.succ.inj h
    exact ih

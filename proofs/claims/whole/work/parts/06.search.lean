/-! the search: looks, saved, over, spent, way, kept -/
abbrev Ss := Int32 × Int32 × Int32 × Bool × Row × Row
theorem i_tick {t : Nat} (h1 : 1 ≤ t) (h2 : t ≤ 8) : 1 ≤ nI t ∧ nI t ≤ 8 := ⟨(nI_leI (a := 1) (by omega) (by omega)).mpr h1, (nI_leI (b := 8) (by omega) (by omega)).mpr h2⟩
def judgeL (ne : Row) (gu : Int32) : Nat → Nat → Int32 → Nat × Int32
  | 0, t, e => (t, e)
  | f + 1, t, e => if thr ne e gu = 0 then (t, e) else judgeL ne gu f (t + 1) (e ||| thr ne e gu)
def keptA (way kept : Row) (last : Nat) (k : Nat) : Row := fun j => if j < k then (if j < last then way j else 0) else kept j
theorem keptA_0 (way kept : Row) (last : Nat) : keptA way kept last 0 = kept := by
  funext j
  simp [keptA]
theorem keptA_S1 {way kept : Row} {last k : Nat} (h : k < last) : keptA way kept last (k + 1) = upd (keptA way kept last k) k (way k) := by
  funext j
  simp only [keptA, upd]
  by_cases hj : j = k
  · subst hj
    simp [h]
  · rw [if_neg hj]
    by_cases h2 : j < k
    · rw [if_pos h2, if_pos (by omega)]
    · rw [if_neg h2, if_neg (by omega)]
theorem keptA_S0 {way kept : Row} {last k : Nat} (h : ¬ k < last) : keptA way kept last (k + 1) = upd (keptA way kept last k) k 0 := by
  funext j
  simp only [keptA, upd]
  by_cases hj : j = k
  · subst hj
    simp [h]
  · rw [if_neg hj]
    by_cases h2 : j < k
    · rw [if_pos h2, if_pos (by omega)]
    · rw [if_neg h2, if_neg (by omega)]
def judgeF (n : Int32) (wo ne : Row) (t : Nat) (bu gu : Int32) (x : Ss) : Ss :=
  if x.2.1 < savedI n wo (judgeL ne gu (20 - t) t bu).2 then (x.1, savedI n wo (judgeL ne gu (20 - t) t bu).2, nI (judgeL ne gu (20 - t) t bu).1, x.2.2.2.1, x.2.2.2.2.1, keptA x.2.2.2.2.1 x.2.2.2.2.2 t 8) else x
def lookF (rc : Nat → Int32 → Int32 → Int32 → Ss → Ss) (n : Int32) (wo ne ow : Row) (ke bd : Int32) (t : Nat) (bu gu set left : Int32) (x : Ss) : Ss :=
  if x.1 < bd then
    if thr ne bu (gu ||| set) ≠ 0 ∧ t < 8 then rc (t + 1) (bu ||| thr ne bu (gu ||| set)) (gu ||| set) (moneyI ow ke (t + 1) left) (x.1 + 1, x.2.1, x.2.2.1, x.2.2.2.1, upd x.2.2.2.2.1 (t - 1) set, x.2.2.2.2.2)
    else judgeF n wo ne t bu (gu ||| set) (x.1 + 1, x.2.1, x.2.2.1, x.2.2.2.1, upd x.2.2.2.2.1 (t - 1) set, x.2.2.2.2.2)
  else (x.1, x.2.1, x.2.2.1, true, x.2.2.2.2.1, x.2.2.2.2.2)
def nextW (free set : Int32) : Int32 := ((set ||| (free ^^^ (-1))) + 1) &&& free
def lastAb (set : Int32) : Int32 := set ||| ((set &&& (-set)) - 1)
def seekL (lk : Int32 → Int32 → Ss → Ss) (pr : Row) (free money : Int32) : Nat → Int32 → Ss → Ss
  | 0, _, x => x
  | f + 1, set, x =>
    if x.2.2.2.1 = true then x
    else if money - sumI pr set 10 < 0 then
      if nextW free (lastAb set) = 0 then x else seekL lk pr free money f (nextW free (lastAb set)) x
    else
      if nextW free set = 0 then lk set (money - sumI pr set 10) x else seekL lk pr free money f (nextW free set) (lk set (money - sumI pr set 10) x)
/-- all ways of a tick t, d = 9 - t -/
def seekF (n : Int32) (wo pr ne ow : Row) (ke bd : Int32) : Nat → Nat → Int32 → Int32 → Int32 → Ss → Ss
  | 0, _, _, _, _, x => x
  | d + 1, t, bu, gu, money, x => seekL (fun set left x => lookF (seekF n wo pr ne ow ke bd d) n wo ne ow ke bd t bu gu set left x) pr (freeI n bu gu) money 1024 0 x
def rmS (d : Nat) : Room := { frames := 2 * d + 8, cells := 0, slots := 0, locals := 60 * d + 260 }
def rmL (d : Nat) : Room := { frames := 2 * d + 9, cells := 0, slots := 0, locals := 60 * d + 290 }
theorem kdX5_seek : yX5_seek.cls = RX5 ∧ yX5_seek.cls ≠ "java/lang/invoke/MethodHandle" ∧ yX5_seek.cls ≠ "java/lang/invoke/VarHandle" ∧ (parseMethodDescriptor yX5_seek.desc).map (fun d => d.parameters.length) = some 5 := ⟨rfl, by decide +kernel, by decide +kernel, by decide +kernel⟩
def rmX5_nextWithin : Room := { frames := 0, cells := 0, slots := 0, locals := 0 }
theorem kdX5_nextWithin : yX5_nextWithin.cls = RX5 ∧ yX5_nextWithin.cls ≠ "java/lang/invoke/MethodHandle" ∧ yX5_nextWithin.cls ≠ "java/lang/invoke/VarHandle" ∧ (parseMethodDescriptor yX5_nextWithin.desc).map (fun d => d.parameters.length) = some 2 := ⟨rfl, by decide +kernel, by decide +kernel, by decide +kernel⟩
set_option maxRecDepth 100000 in
set_option maxHeartbeats 1000000 in
theorem kX5_nextWithin (l : Launch) (D : va_G) (cI cJ : ClassId) (a b : Int32)  : Met l yX5_nextWithin wsX5_nextWithin rmX5_nextWithin (rPre D cI cJ [.int a, .int b] []) (qRI (nextW a b)) 0 0 nA := by
  refine startR (cc := cX5_nextWithin) (maxL := 2) (ret := (some .int)) (by decide) rfl (Nat.le_of_ble_eq_true rfl) ?_
  intro p e s m args below meth c ls Q hQ hx hb hr hlocks hml hown hts hK hN hP hl hin
  have hown : s.vm.findClass RX5 = some m.cls := hown
  have hS : va_S nA s.heap s.heap [] := va_S.rf
  have hl : lv_has ls 2 [(0, .int a), (1, .int b)] := hl
  have hP : va_P D vwCl [] s.heap := hP
  refine lv_iload_n hx hb dX5_nextWithin_0 rfl (lv_at hl 1 rfl) ?_
  refine lv_iload_n hx hb dX5_nextWithin_1 rfl (lv_at hl 0 rfl) ?_
  refine lv_iconst (v := (-1)) hx hb dX5_nextWithin_2 (by decide) ?_
  refine lv_ixor hx hb dX5_nextWithin_3 ?_
  refine lv_ior hx hb dX5_nextWithin_4 ?_
  refine lv_iconst (v := 1) hx hb dX5_nextWithin_5 (by decide) ?_
  refine lv_iadd hx hb dX5_nextWithin_6 ?_
  refine lv_iload_n hx hb dX5_nextWithin_7 rfl (lv_at hl 0 rfl) ?_
  refine lv_iand hx hb dX5_nextWithin_8 ?_
  exact endRI hx hb hr hlocks hQ hS dX5_nextWithin_9 rfl
def rmX5_lastAbove : Room := { frames := 0, cells := 0, slots := 0, locals := 0 }
theorem kdX5_lastAbove : yX5_lastAbove.cls = RX5 ∧ yX5_lastAbove.cls ≠ "java/lang/invoke/MethodHandle" ∧ yX5_lastAbove.cls ≠ "java/lang/invoke/VarHandle" ∧ (parseMethodDescriptor yX5_lastAbove.desc).map (fun d => d.parameters.length) = some 1 := ⟨rfl, by decide +kernel, by decide +kernel, by decide +kernel⟩
set_option maxRecDepth 100000 in
set_option maxHeartbeats 1000000 in
theorem kX5_lastAbove (l : Launch) (D : va_G) (cI cJ : ClassId) (a : Int32)  : Met l yX5_lastAbove wsX5_lastAbove rmX5_lastAbove (rPre D cI cJ [.int a] []) (qRI (lastAb a)) 0 0 nA := by
  refine startR (cc := cX5_lastAbove) (maxL := 1) (ret := (some .int)) (by decide) rfl (Nat.le_of_ble_eq_true rfl) ?_
  intro p e s m args below meth c ls Q hQ hx hb hr hlocks hml hown hts hK hN hP hl hin
  have hown : s.vm.findClass RX5 = some m.cls := hown
  have hS : va_S nA s.heap s.heap [] := va_S.rf
  have hl : lv_has ls 1 [(0, .int a)] := hl
  have hP : va_P D vwCl [] s.heap := hP
  refine lv_iload_n hx hb dX5_lastAbove_0 rfl (lv_at hl 0 rfl) ?_
  refine lv_iload_n hx hb dX5_lastAbove_1 rfl (lv_at hl 0 rfl) ?_
  refine lv_iload_n hx hb dX5_lastAbove_2 rfl (lv_at hl 0 rfl) ?_
  refine lv_ineg hx hb dX5_lastAbove_3 ?_
  refine lv_iand hx hb dX5_lastAbove_4 ?_
  refine lv_iconst (v := 1) hx hb dX5_lastAbove_5 (by decide) ?_
  refine lv_isub hx hb dX5_lastAbove_6 ?_
  refine lv_ior hx hb dX5_lastAbove_7 ?_
  exact endRI hx hb hr hlocks hQ hS dX5_lastAbove_8 rfl
def rmX5_chosen : Room := { frames := 1, cells := 0, slots := 0, locals := 22 }
theorem kdX5_chosen : yX5_chosen.cls = RX5 ∧ yX5_chosen.cls ≠ "java/lang/invoke/MethodHandle" ∧ yX5_chosen.cls ≠ "java/lang/invoke/VarHandle" ∧ (parseMethodDescriptor yX5_chosen.desc).map (fun d => d.parameters.length) = some 1 := ⟨rfl, by decide +kernel, by decide +kernel, by decide +kernel⟩
set_option maxRecDepth 100000 in
set_option maxHeartbeats 1000000 in
theorem kX5_chosen (l : Launch) (D : va_G) (cI cJ : ClassId) (se pv wy kp : Nat) (bd : Int32) (x : Ss) (t : Nat) (h1 : 1 ≤ t) (h2 : t ≤ 8) : Met l yX5_chosen wsX5_chosen rmX5_chosen (rPre D cI cJ [.ref se, .int (nI t)] [(se, .inr (5, [.ref pv, .int x.1, .int x.2.1, .int x.2.2.1, .int (zb (x.2.2.2.1 = true)), .int bd, .ref wy, .ref kp])), (kp, .inl (cI, 8, .inl x.2.2.2.2.2))]) (qRI (x.2.2.2.2.2 (t - 1))) 0 0 nA := by
  refine startR (cc := cX5_chosen) (maxL := 2) (ret := (some .int)) (by decide) rfl (Nat.le_of_ble_eq_true rfl) ?_
  intro p e s m args below meth c ls Q hQ hx hb hr hlocks hml hown hts hK hN hP hl hin
  have hown : s.vm.findClass RX5 = some m.cls := hown
  have hi_5 : ∀ w ∈ wsX50, w ∈ wsX5_chosen := by decide +kernel
  have hf_22 := hts (.fieldLink RX5 22 "FireNets$Search" "kept" "[I") (by decide +kernel)
  have hini_RX6 := hts (.initialized RX6) (by decide +kernel)
  have hst_X6_within := hts (.static yX6_within) (by decide +kernel)
  have hS : va_S nA s.heap s.heap [] := va_S.rf
  have hl : lv_has ls 2 [(0, .ref se), (1, .int (nI t))] := hl
  have hP : va_P D vwCl [(se, .inr (5, [.ref pv, .int x.1, .int x.2.1, .int x.2.2.1, .int (zb (x.2.2.2.1 = true)), .int bd, .ref wy, .ref kp])), (kp, .inl (cI, 8, .inl x.2.2.2.2.2))] s.heap := hP
  refine lv_iload_n hx hb dX5_chosen_0 rfl (lv_at hl 1 rfl) ?_
  refine lv_iconst (v := 1) hx hb dX5_chosen_1 (by decide) ?_
  refine lv_bipush (v := 8) hx hb dX5_chosen_2 (by decide) ?_
  refine goRI hP hS (va_runSN (As := [.int (nI t), .int 1, .int 8]) (rest := []) ⟨hx, hb, hml, hown, hts⟩ (kX6_within l D cI cJ (nI t) 1 8) ⟨va_cnB (host := "FireNets") 3 hts gX5_chosen_X6_within_n25 rfl rfl rfl (hN _ nwm_RX5_25) hini_RX6 kdX6_within.2 ⟨Nat.le_of_ble_eq_true rfl, Nat.le_of_ble_eq_true rfl⟩, hst_X6_within, trivial⟩ (preR hK hN hP [] rfl) rfl rfl hl.1 rfl (lv_room (Nat.le_of_ble_eq_true rfl)) dX5_chosen_4 ⟨Nat.zero_le _, Nat.zero_le _⟩) (fun H locs hP hS => ?_)
  refine r_zeq (tgt := 21) hx hb dX5_chosen_7 (by decide) (fun c_7 => ?_) (fun c_7 => ?_)
  · exact absurd (i_tick h1 h2) c_7
  · refine lv_aload_n hx hb dX5_chosen_10 rfl (lv_at hl 0 rfl) ?_
    refine va_get (D := D) (ci := 5) (v := .ref kp) (C := RX5) (T := TX5) (N := 8) hx hb hts hi_5 hown hK hP 0 rfl rfl 7 (by decide) hf_22 (fun _ h9 => h9) rfl dX5_chosen_11 ?_
    refine lv_iload_n hx hb dX5_chosen_14 rfl (lv_at hl 1 rfl) ?_
    refine lv_iconst (v := 1) hx hb dX5_chosen_15 (by decide) ?_
    refine lv_isub hx hb dX5_chosen_16 ?_
    refine r_top (x' := nI (t - 1)) (pk_sub (a := t) (b := 1) (by omega)) ?_
    refine r_iald hx hb hK hP 1 rfl (t - 1) rfl (by omega) (by omega) dX5_chosen_17 ?_
    refine lv_goto (tgt := 22) hx hb dX5_chosen_18 (by decide) ?_
    exact endRI hx hb hr hlocks hQ hS dX5_chosen_22 rfl
def rmX5_judge : Room := { frames := 2, cells := 0, slots := 0, locals := 45 }
theorem kdX5_judge : yX5_judge.cls = RX5 ∧ yX5_judge.cls ≠ "java/lang/invoke/MethodHandle" ∧ yX5_judge.cls ≠ "java/lang/invoke/VarHandle" ∧ (parseMethodDescriptor yX5_judge.desc).map (fun d => d.parameters.length) = some 4 := ⟨rfl, by decide +kernel, by decide +kernel, by decide +kernel⟩
set_option maxRecDepth 100000 in
set_option maxHeartbeats 1000000 in
theorem kX5_judge (l : Launch) (D : va_G) (cI cJ : ClassId) (se pv wy kp : Nat) (bd : Int32) (x : Ss) (nt aw ap an ae nn mm : Nat) (wo ne : Row) (t : Nat) (bu gu : Int32) (h1 : 1 ≤ t) (h2 : t ≤ 8) : Met l yX5_judge wsX5_judge rmX5_judge (mPre D cI cJ [.ref se, .ref nt, .int (nI t), .int bu, .int gu] [(se, .inr (5, [.ref pv, .int x.1, .int x.2.1, .int x.2.2.1, .int (zb (x.2.2.2.1 = true)), .int bd, .ref wy, .ref kp])), (wy, .inl (cI, 8, .inl x.2.2.2.2.1)), (kp, .inl (cI, 8, .inl x.2.2.2.2.2)), (nt, .inr (3, [.int (nI nn), .int (nI mm), .ref aw, .ref ap, .ref an, .ref ae])), (aw, .inl (cI, 10, .inl wo)), (an, .inl (cI, 10, .inl ne))]) (mQv D (fun (_ : Unit) => True) (fun (_ : Unit) => [(se, .inr (5, [.ref pv, .int ((judgeF (nI nn) wo ne t bu gu x).1), .int ((judgeF (nI nn) wo ne t bu gu x).2.1), .int ((judgeF (nI nn) wo ne t bu gu x).2.2.1), .int (zb ((judgeF (nI nn) wo ne t bu gu x).2.2.2.1 = true)), .int bd, .ref wy, .ref kp])), (wy, .inl (cI, 8, .inl ((judgeF (nI nn) wo ne t bu gu x).2.2.2.2.1))), (kp, .inl (cI, 8, .inl ((judgeF (nI nn) wo ne t bu gu x).2.2.2.2.2))), (nt, .inr (3, [.int (nI nn), .int (nI mm), .ref aw, .ref ap, .ref an, .ref ae])), (aw, .inl (cI, 10, .inl wo)), (an, .inl (cI, 10, .inl ne))]) [(se, .inr (5, [.ref pv, .int x.1, .int x.2.1, .int x.2.2.1, .int (zb (x.2.2.2.1 = true)), .int bd, .ref wy, .ref kp])), (wy, .inl (cI, 8, .inl x.2.2.2.2.1)), (kp, .inl (cI, 8, .inl x.2.2.2.2.2)), (nt, .inr (3, [.int (nI nn), .int (nI mm), .ref aw, .ref ap, .ref an, .ref ae])), (aw, .inl (cI, 10, .inl wo)), (an, .inl (cI, 10, .inl ne))]) 0 0 (mA [(se, .inr (5, [.ref pv, .int x.1, .int x.2.1, .int x.2.2.1, .int (zb (x.2.2.2.1 = true)), .int bd, .ref wy, .ref kp])), (wy, .inl (cI, 8, .inl x.2.2.2.2.1)), (kp, .inl (cI, 8, .inl x.2.2.2.2.2)), (nt, .inr (3, [.int (nI nn), .int (nI mm), .ref aw, .ref ap, .ref an, .ref ae])), (aw, .inl (cI, 10, .inl wo)), (an, .inl (cI, 10, .inl ne))]) := by
  refine startM (cc := cX5_judge) (maxL := 10) (ret := none) (by decide) rfl (Nat.le_of_ble_eq_true rfl) ?_
  intro p e s m args below meth c ls Q A hA hQ hx hb hr hlocks hml hown hts hK hN hP hD hl hin
  have hown : s.vm.findClass RX5 = some m.cls := hown
  have hi_5 : ∀ w ∈ wsX50, w ∈ wsX5_judge := by decide +kernel
  have hf_18 := hts (.fieldLink RX5 18 "FireNets$Search" "way" "[I") (by decide +kernel)
  have hf_22 := hts (.fieldLink RX5 22 "FireNets$Search" "kept" "[I") (by decide +kernel)
  have hf_40 := hts (.fieldLink RX5 40 "FireNets$Search" "saved" "I") (by decide +kernel)
  have hf_81 := hts (.fieldLink RX5 81 "FireNets$Search" "over" "I") (by decide +kernel)
  have hS : va_S A s.heap s.heap [] := va_S.rf
  have hl : lv_has ls 10 [(0, .ref se), (1, .ref nt), (2, .int (nI t)), (3, .int bu), (4, .int gu)] := hl
  have hP : va_P D vwCl [(se, .inr (5, [.ref pv, .int x.1, .int x.2.1, .int x.2.2.1, .int (zb (x.2.2.2.1 = true)), .int bd, .ref wy, .ref kp])), (wy, .inl (cI, 8, .inl x.2.2.2.2.1)), (kp, .inl (cI, 8, .inl x.2.2.2.2.2)), (nt, .inr (3, [.int (nI nn), .int (nI mm), .ref aw, .ref ap, .ref an, .ref ae])), (aw, .inl (cI, 10, .inl wo)), (an, .inl (cI, 10, .inl ne))] s.heap := hP
  have tl : ∀ (ls : Array Slot) (H : Heap) (locs : List Loc), lv_has ls 10 [(0, .ref se), (1, .ref nt), (2, .int (nI t)), (5, .int (nI ((judgeL ne gu (20 - t) t bu).1))), (6, .int ((judgeL ne gu (20 - t) t bu).2))] → va_P D vwCl [(se, .inr (5, [.ref pv, .int x.1, .int x.2.1, .int x.2.2.1, .int (zb (x.2.2.2.1 = true)), .int bd, .ref wy, .ref kp])), (wy, .inl (cI, 8, .inl x.2.2.2.2.1)), (kp, .inl (cI, 8, .inl x.2.2.2.2.2)), (nt, .inr (3, [.int (nI nn), .int (nI mm), .ref aw, .ref ap, .ref an, .ref ae])), (aw, .inl (cI, 10, .inl wo)), (an, .inl (cI, 10, .inl ne))] H → va_D A [(se, .inr (5, [.ref pv, .int x.1, .int x.2.1, .int x.2.2.1, .int (zb (x.2.2.2.1 = true)), .int bd, .ref wy, .ref kp])), (wy, .inl (cI, 8, .inl x.2.2.2.2.1)), (kp, .inl (cI, 8, .inl x.2.2.2.2.2)), (nt, .inr (3, [.int (nI nn), .int (nI mm), .ref aw, .ref ap, .ref an, .ref ae])), (aw, .inl (cI, 10, .inl wo)), (an, .inl (cI, 10, .inl ne))] → va_S A s.heap H locs → W p l e rmX5_judge s m args below meth c H locs 0 0 Q (F0 m 51 ls []) := by
    intro  ls H locs hl hP hD hS
    refine lv_aload_n hx hb dX5_judge_51 rfl (lv_at hl 1 rfl) ?_
    refine lv_iload hx hb dX5_judge_52 (lv_at hl 4 rfl) ?_
    refine goRI hP hS (va_runV (As := [.int ((judgeL ne gu (20 - t) t bu).2)]) (rest := []) ⟨hx, hb, hml, hown, hts⟩ (kX3_savedFrom l D cI cJ nt aw ap an ae nn mm wo ((judgeL ne gu (20 - t) t bu).2)) (cwV 1 hts gX5_judge_X3_savedFrom rfl rfl rfl kdX3_savedFrom ⟨Nat.le_of_ble_eq_true rfl, Nat.le_of_ble_eq_true rfl⟩) (preRV hK hN hP 3 (ci := 3) rfl rfl rfl [3, 4] rfl) rfl rfl hl.1 rfl (lv_room (Nat.le_of_ble_eq_true rfl)) dX5_judge_54 ⟨Nat.zero_le _, Nat.zero_le _⟩) (fun H locs hP hS => ?_)
    refine lv_istore (lv' := [(8, .int (savedI (nI nn) wo ((judgeL ne gu (20 - t) t bu).2))), (0, .ref se), (1, .ref nt), (2, .int (nI t)), (5, .int (nI ((judgeL ne gu (20 - t) t bu).1))), (6, .int ((judgeL ne gu (20 - t) t bu).2))]) hx hb dX5_judge_57 hl (by decide) rfl (fun ls hl => ?_)
    refine lv_iload hx hb dX5_judge_59 (lv_at hl 0 rfl) ?_
    refine lv_aload_n hx hb dX5_judge_61 rfl (lv_at hl 1 rfl) ?_
    refine va_get (D := D) (ci := 5) (v := .int x.2.1) (C := RX5) (T := TX5) (N := 8) hx hb hts hi_5 hown hK hP 0 rfl rfl 2 (by decide) hf_40 (fun _ h9 => h9) rfl dX5_judge_62 ?_
    refine lv_icmp_gt (tgt := 69) hx hb dX5_judge_65 (by decide) (fun c_65 => ?_) (fun c_65 => ?_)
    · refine lv_aload_n hx hb dX5_judge_69 rfl (lv_at hl 1 rfl) ?_
      refine lv_iload hx hb dX5_judge_70 (lv_at hl 0 rfl) ?_
      refine va_put (D := D) (ci := 5) (v := .int (savedI (nI nn) wo ((judgeL ne gu (20 - t) t bu).2))) (ty := .int) (C := RX5) (T := TX5) (N := 8) hx hb hts hi_5 tyX5 tyX5_ok nmX5 hown hK hP hD hS 0 rfl rfl 2 (by decide) hf_40 (fun _ h9 => h9) rfl (by decide +kernel) rfl rfl (Nat.le_of_ble_eq_true rfl) dX5_judge_72 (fun H locs hP hD hS => ?_)
      have hP : va_P D vwCl [(se, .inr (5, [.ref pv, .int x.1, .int (savedI (nI nn) wo ((judgeL ne gu (20 - t) t bu).2)), .int x.2.2.1, .int (zb (x.2.2.2.1 = true)), .int bd, .ref wy, .ref kp])), (wy, .inl (cI, 8, .inl x.2.2.2.2.1)), (kp, .inl (cI, 8, .inl x.2.2.2.2.2)), (nt, .inr (3, [.int (nI nn), .int (nI mm), .ref aw, .ref ap, .ref an, .ref ae])), (aw, .inl (cI, 10, .inl wo)), (an, .inl (cI, 10, .inl ne))] H := hP
      have hD : va_D A [(se, .inr (5, [.ref pv, .int x.1, .int (savedI (nI nn) wo ((judgeL ne gu (20 - t) t bu).2)), .int x.2.2.1, .int (zb (x.2.2.2.1 = true)), .int bd, .ref wy, .ref kp])), (wy, .inl (cI, 8, .inl x.2.2.2.2.1)), (kp, .inl (cI, 8, .inl x.2.2.2.2.2)), (nt, .inr (3, [.int (nI nn), .int (nI mm), .ref aw, .ref ap, .ref an, .ref ae])), (aw, .inl (cI, 10, .inl wo)), (an, .inl (cI, 10, .inl ne))] := hD
      refine lv_aload_n hx hb dX5_judge_75 rfl (lv_at hl 1 rfl) ?_
      refine lv_iload hx hb dX5_judge_76 (lv_at hl 4 rfl) ?_
      refine va_put (D := D) (ci := 5) (v := .int (nI ((judgeL ne gu (20 - t) t bu).1))) (ty := .int) (C := RX5) (T := TX5) (N := 8) hx hb hts hi_5 tyX5 tyX5_ok nmX5 hown hK hP hD hS 0 rfl rfl 3 (by decide) hf_81 (fun _ h9 => h9) rfl (by decide +kernel) rfl rfl (Nat.le_of_ble_eq_true rfl) dX5_judge_78 (fun H locs hP hD hS => ?_)
      have hP : va_P D vwCl [(se, .inr (5, [.ref pv, .int x.1, .int (savedI (nI nn) wo ((judgeL ne gu (20 - t) t bu).2)), .int (nI ((judgeL ne gu (20 - t) t bu).1)), .int (zb (x.2.2.2.1 = true)), .int bd, .ref wy, .ref kp])), (wy, .inl (cI, 8, .inl x.2.2.2.2.1)), (kp, .inl (cI, 8, .inl x.2.2.2.2.2)), (nt, .inr (3, [.int (nI nn), .int (nI mm), .ref aw, .ref ap, .ref an, .ref ae])), (aw, .inl (cI, 10, .inl wo)), (an, .inl (cI, 10, .inl ne))] H := hP
      have hD : va_D A [(se, .inr (5, [.ref pv, .int x.1, .int (savedI (nI nn) wo ((judgeL ne gu (20 - t) t bu).2)), .int (nI ((judgeL ne gu (20 - t) t bu).1)), .int (zb (x.2.2.2.1 = true)), .int bd, .ref wy, .ref kp])), (wy, .inl (cI, 8, .inl x.2.2.2.2.1)), (kp, .inl (cI, 8, .inl x.2.2.2.2.2)), (nt, .inr (3, [.int (nI nn), .int (nI mm), .ref aw, .ref ap, .ref an, .ref ae])), (aw, .inl (cI, 10, .inl wo)), (an, .inl (cI, 10, .inl ne))] := hD
      refine lv_iconst (v := 0) hx hb dX5_judge_81 (by decide) ?_
      refine lv_istore (lv' := [(9, .int 0), (8, .int (savedI (nI nn) wo ((judgeL ne gu (20 - t) t bu).2))), (0, .ref se), (1, .ref nt), (2, .int (nI t)), (5, .int (nI ((judgeL ne gu (20 - t) t bu).1))), (6, .int ((judgeL ne gu (20 - t) t bu).2))]) hx hb dX5_judge_82 hl (by decide) rfl (fun ls hl => ?_)
      have kl : ∀ (fu : Nat) (k : Nat), (k ≤ 8) → 8 - k < fu → ∀ (ls : Array Slot) (H : Heap) (locs : List Loc), lv_has ls 10 [(0, .ref se), (2, .int (nI t)), (9, .int (nI k))] → va_P D vwCl [(se, .inr (5, [.ref pv, .int x.1, .int (savedI (nI nn) wo (judgeL ne gu (20 - t) t bu).2), .int (nI ((judgeL ne gu (20 - t) t bu).1)), .int (zb (x.2.2.2.1 = true)), .int bd, .ref wy, .ref kp])), (wy, .inl (cI, 8, .inl x.2.2.2.2.1)), (kp, .inl (cI, 8, .inl (keptA x.2.2.2.2.1 x.2.2.2.2.2 t k))), (nt, .inr (3, [.int (nI nn), .int (nI mm), .ref aw, .ref ap, .ref an, .ref ae])), (aw, .inl (cI, 10, .inl wo)), (an, .inl (cI, 10, .inl ne))] H → va_D A [(se, .inr (5, [.ref pv, .int x.1, .int (savedI (nI nn) wo (judgeL ne gu (20 - t) t bu).2), .int (nI ((judgeL ne gu (20 - t) t bu).1)), .int (zb (x.2.2.2.1 = true)), .int bd, .ref wy, .ref kp])), (wy, .inl (cI, 8, .inl x.2.2.2.2.1)), (kp, .inl (cI, 8, .inl (keptA x.2.2.2.2.1 x.2.2.2.2.2 t k))), (nt, .inr (3, [.int (nI nn), .int (nI mm), .ref aw, .ref ap, .ref an, .ref ae])), (aw, .inl (cI, 10, .inl wo)), (an, .inl (cI, 10, .inl ne))] → va_S A s.heap H locs → W p l e rmX5_judge s m args below meth c H locs 0 0 Q (F0 m 84 ls []) := by
        intro fu
        induction fu with
        | zero => intro k hk hf; exact absurd hf (Nat.not_lt_zero _)
        | succ fu ih_kl =>
          intro k hk hf ls H locs hl hP hD hS
          refine lv_iload hx hb dX5_judge_84 (lv_at hl 2 rfl) ?_
          refine lv_bipush (v := 8) hx hb dX5_judge_86 (by decide) ?_
          refine r_icmp_ge (tgt := 121) hx hb k 8 dX5_judge_88 (by decide) rfl rfl (by omega) (by omega) (fun c_88 => ?_) (fun c_88 => ?_)
          · exact endMV () hx hb hr hlocks hA hQ hS hP dX5_judge_121 (by rw [judgeF, if_pos c_65, show k = 8 by omega]) trivial
          · refine lv_aload_n hx hb dX5_judge_91 rfl (lv_at hl 0 rfl) ?_
            refine va_get (D := D) (ci := 5) (v := .ref kp) (C := RX5) (T := TX5) (N := 8) hx hb hts hi_5 hown hK hP 0 rfl rfl 7 (by decide) hf_22 (fun _ h9 => h9) rfl dX5_judge_92 ?_
            refine lv_iload hx hb dX5_judge_95 (lv_at hl 2 rfl) ?_
            refine lv_iload hx hb dX5_judge_97 (lv_at hl 2 rfl) ?_
            refine lv_iload_n hx hb dX5_judge_99 rfl (lv_at hl 1 rfl) ?_
            refine r_icmp_ge (tgt := 113) hx hb k t dX5_judge_100 (by decide) rfl rfl (by omega) (by omega) (fun c_100 => ?_) (fun c_100 => ?_)
            · refine lv_iconst (v := 0) hx hb dX5_judge_113 (by decide) ?_
              refine r_iast hx hb hK hP hD hS 2 rfl k rfl (by omega) (by omega) dX5_judge_114 (fun H locs hP hD hS => ?_)
              have hP : va_P D vwCl [(se, .inr (5, [.ref pv, .int x.1, .int (savedI (nI nn) wo (judgeL ne gu (20 - t) t bu).2), .int (nI ((judgeL ne gu (20 - t) t bu).1)), .int (zb (x.2.2.2.1 = true)), .int bd, .ref wy, .ref kp])), (wy, .inl (cI, 8, .inl x.2.2.2.2.1)), (kp, .inl (cI, 8, .inl (upd (keptA x.2.2.2.2.1 x.2.2.2.2.2 t k) k 0))), (nt, .inr (3, [.int (nI nn), .int (nI mm), .ref aw, .ref ap, .ref an, .ref ae])), (aw, .inl (cI, 10, .inl wo)), (an, .inl (cI, 10, .inl ne))] H := hP
              have hD : va_D A [(se, .inr (5, [.ref pv, .int x.1, .int (savedI (nI nn) wo (judgeL ne gu (20 - t) t bu).2), .int (nI ((judgeL ne gu (20 - t) t bu).1)), .int (zb (x.2.2.2.1 = true)), .int bd, .ref wy, .ref kp])), (wy, .inl (cI, 8, .inl x.2.2.2.2.1)), (kp, .inl (cI, 8, .inl (upd (keptA x.2.2.2.2.1 x.2.2.2.2.2 t k) k 0))), (nt, .inr (3, [.int (nI nn), .int (nI mm), .ref aw, .ref ap, .ref an, .ref ae])), (aw, .inl (cI, 10, .inl wo)), (an, .inl (cI, 10, .inl ne))] := hD
              refine r_iinc (lv' := [(9, .int (nI (k + 1))), (0, .ref se), (2, .int (nI t))]) hx hb 2 k dX5_judge_115 hl rfl (by decide) rfl (fun ls hl => ?_)
              refine lv_goto (tgt := 84) hx hb dX5_judge_118 (by decide) ?_
              exact ih_kl (k + 1) (by omega) (by omega) ls _ _ (lv_sub hl [1, 2, 0] rfl) (by rw [keptA_S0 (by omega)]; exact hP) (by rw [keptA_S0 (by omega)]; exact hD) hS
            · refine lv_aload_n hx hb dX5_judge_103 rfl (lv_at hl 0 rfl) ?_
              refine va_get (D := D) (ci := 5) (v := .ref wy) (C := RX5) (T := TX5) (N := 8) hx hb hts hi_5 hown hK hP 0 rfl rfl 6 (by decide) hf_18 (fun _ h9 => h9) rfl dX5_judge_104 ?_
              refine lv_iload hx hb dX5_judge_107 (lv_at hl 2 rfl) ?_
              refine r_iald hx hb hK hP 1 rfl k rfl (by omega) (by omega) dX5_judge_109 ?_
              refine lv_goto (tgt := 114) hx hb dX5_judge_110 (by decide) ?_
              refine r_iast hx hb hK hP hD hS 2 rfl k rfl (by omega) (by omega) dX5_judge_114 (fun H locs hP hD hS => ?_)
              have hP : va_P D vwCl [(se, .inr (5, [.ref pv, .int x.1, .int (savedI (nI nn) wo (judgeL ne gu (20 - t) t bu).2), .int (nI ((judgeL ne gu (20 - t) t bu).1)), .int (zb (x.2.2.2.1 = true)), .int bd, .ref wy, .ref kp])), (wy, .inl (cI, 8, .inl x.2.2.2.2.1)), (kp, .inl (cI, 8, .inl (upd (keptA x.2.2.2.2.1 x.2.2.2.2.2 t k) k (x.2.2.2.2.1 k)))), (nt, .inr (3, [.int (nI nn), .int (nI mm), .ref aw, .ref ap, .ref an, .ref ae])), (aw, .inl (cI, 10, .inl wo)), (an, .inl (cI, 10, .inl ne))] H := hP
              have hD : va_D A [(se, .inr (5, [.ref pv, .int x.1, .int (savedI (nI nn) wo (judgeL ne gu (20 - t) t bu).2), .int (nI ((judgeL ne gu (20 - t) t bu).1)), .int (zb (x.2.2.2.1 = true)), .int bd, .ref wy, .ref kp])), (wy, .inl (cI, 8, .inl x.2.2.2.2.1)), (kp, .inl (cI, 8, .inl (upd (keptA x.2.2.2.2.1 x.2.2.2.2.2 t k) k (x.2.2.2.2.1 k)))), (nt, .inr (3, [.int (nI nn), .int (nI mm), .ref aw, .ref ap, .ref an, .ref ae])), (aw, .inl (cI, 10, .inl wo)), (an, .inl (cI, 10, .inl ne))] := hD
              refine r_iinc (lv' := [(9, .int (nI (k + 1))), (0, .ref se), (2, .int (nI t))]) hx hb 2 k dX5_judge_115 hl rfl (by decide) rfl (fun ls hl => ?_)
              refine lv_goto (tgt := 84) hx hb dX5_judge_118 (by decide) ?_
              exact ih_kl (k + 1) (by omega) (by omega) ls _ _ (lv_sub hl [1, 2, 0] rfl) (by rw [keptA_S1 c_100]; exact hP) (by rw [keptA_S1 c_100]; exact hD) hS
      exact kl _ 0 (by omega) (Nat.lt_succ_self _) ls _ _ (lv_sub hl [2, 4, 0] rfl) (by rw [keptA_0]; exact hP) (by rw [keptA_0]; exact hD) hS
    · exact endMV () hx hb hr hlocks hA hQ hS hP dX5_judge_68 (by rw [judgeF, if_neg c_65]) trivial
  refine lv_iload_n hx hb dX5_judge_0 rfl (lv_at hl 2 rfl) ?_
  refine lv_istore (lv' := [(5, .int (nI t)), (0, .ref se), (1, .ref nt), (2, .int (nI t)), (3, .int bu), (4, .int gu)]) hx hb dX5_judge_1 hl (by decide) rfl (fun ls hl => ?_)
  refine lv_iload_n hx hb dX5_judge_3 rfl (lv_at hl 4 rfl) ?_
  refine lv_istore (lv' := [(6, .int bu), (5, .int (nI t)), (0, .ref se), (1, .ref nt), (2, .int (nI t)), (3, .int bu), (4, .int gu)]) hx hb dX5_judge_4 hl (by decide) rfl (fun ls hl => ?_)
  refine lv_aload_n hx hb dX5_judge_6 rfl (lv_at hl 3 rfl) ?_
  refine lv_iload hx hb dX5_judge_7 (lv_at hl 0 rfl) ?_
  refine lv_iload hx hb dX5_judge_9 (lv_at hl 6 rfl) ?_
  refine goRI hP hS (va_runV (As := [.int bu, .int gu]) (rest := []) ⟨hx, hb, hml, hown, hts⟩ (kX3_threatened l D cI cJ nt aw ap an ae nn mm ne bu gu) (cwV 2 hts gX5_judge_X3_threatened rfl rfl rfl kdX3_threatened ⟨Nat.le_of_ble_eq_true rfl, Nat.le_of_ble_eq_true rfl⟩) (preRV hK hN hP 3 (ci := 3) rfl rfl rfl [3, 5] rfl) rfl rfl hl.1 rfl (lv_room (Nat.le_of_ble_eq_true rfl)) dX5_judge_11 ⟨Nat.zero_le _, Nat.zero_le _⟩) (fun H locs hP hS => ?_)
  refine lv_istore (lv' := [(7, .int (thr ne bu gu)), (6, .int bu), (5, .int (nI t)), (0, .ref se), (1, .ref nt), (2, .int (nI t)), (3, .int bu), (4, .int gu)]) hx hb dX5_judge_14 hl (by decide) rfl (fun ls hl => ?_)
  have lp : ∀ (fu : Nat) (k : Nat) (b : Int32), (k ≤ 20) → (judgeL ne gu (20 - k) k b = judgeL ne gu (20 - t) t bu) → 20 - k < fu → ∀ (ls : Array Slot) (H : Heap) (locs : List Loc), lv_has ls 10 [(0, .ref se), (1, .ref nt), (2, .int (nI t)), (4, .int gu), (5, .int (nI k)), (6, .int b), (7, .int (thr ne b gu))] → va_P D vwCl [(se, .inr (5, [.ref pv, .int x.1, .int x.2.1, .int x.2.2.1, .int (zb (x.2.2.2.1 = true)), .int bd, .ref wy, .ref kp])), (wy, .inl (cI, 8, .inl x.2.2.2.2.1)), (kp, .inl (cI, 8, .inl x.2.2.2.2.2)), (nt, .inr (3, [.int (nI nn), .int (nI mm), .ref aw, .ref ap, .ref an, .ref ae])), (aw, .inl (cI, 10, .inl wo)), (an, .inl (cI, 10, .inl ne))] H → va_D A [(se, .inr (5, [.ref pv, .int x.1, .int x.2.1, .int x.2.2.1, .int (zb (x.2.2.2.1 = true)), .int bd, .ref wy, .ref kp])), (wy, .inl (cI, 8, .inl x.2.2.2.2.1)), (kp, .inl (cI, 8, .inl x.2.2.2.2.2)), (nt, .inr (3, [.int (nI nn), .int (nI mm), .ref aw, .ref ap, .ref an, .ref ae])), (aw, .inl (cI, 10, .inl wo)), (an, .inl (cI, 10, .inl ne))] → va_S A s.heap H locs → W p l e rmX5_judge s m args below meth c H locs 0 0 Q (F0 m 16 ls []) := by
    intro fu
    induction fu with
    | zero => intro k b hk hq hf; exact absurd hf (Nat.not_lt_zero _)
    | succ fu ih_lp =>
      intro k b hk hq hf ls H locs hl hP hD hS
      refine lv_iload hx hb dX5_judge_16 (lv_at hl 4 rfl) ?_
      refine lv_bipush (v := 20) hx hb dX5_judge_18 (by decide) ?_
      refine r_icmp_ge (tgt := 51) hx hb k 20 dX5_judge_20 (by decide) rfl rfl (by omega) (by omega) (fun c_20 => ?_) (fun c_20 => ?_)
      · exact tl ls _ _ (by rw [← hq, show 20 - k = 0 by omega]; exact lv_sub hl [0, 1, 2, 4, 5] rfl) hP hD hS
      · refine lv_iload hx hb dX5_judge_23 (lv_at hl 6 rfl) ?_
        refine lv_if_eq (tgt := 51) hx hb dX5_judge_25 (by decide) (fun c_25 => ?_) (fun c_25 => ?_)
        · exact tl ls _ _ (by rw [← hq, show 20 - k = (20 - (k + 1)) + 1 by omega, judgeL, if_pos c_25]; exact lv_sub hl [0, 1, 2, 4, 5] rfl) hP hD hS
        · refine lv_iload hx hb dX5_judge_28 (lv_at hl 5 rfl) ?_
          refine lv_iload hx hb dX5_judge_30 (lv_at hl 6 rfl) ?_
          refine lv_ior hx hb dX5_judge_32 ?_
          refine lv_istore (lv' := [(6, .int (b ||| (thr ne b gu))), (0, .ref se), (1, .ref nt), (2, .int (nI t)), (4, .int gu), (5, .int (nI k)), (7, .int (thr ne b gu))]) hx hb dX5_judge_33 hl (by decide) rfl (fun ls hl => ?_)
          refine lv_aload_n hx hb dX5_judge_35 rfl (lv_at hl 2 rfl) ?_
          refine lv_iload hx hb dX5_judge_36 (lv_at hl 0 rfl) ?_
          refine lv_iload hx hb dX5_judge_38 (lv_at hl 4 rfl) ?_
          refine goRI hP hS (va_runV (As := [.int (b ||| (thr ne b gu)), .int gu]) (rest := []) ⟨hx, hb, hml, hown, hts⟩ (kX3_threatened l D cI cJ nt aw ap an ae nn mm ne (b ||| (thr ne b gu)) gu) (cwV 2 hts gX5_judge_X3_threatened rfl rfl rfl kdX3_threatened ⟨Nat.le_of_ble_eq_true rfl, Nat.le_of_ble_eq_true rfl⟩) (preRV hK hN hP 3 (ci := 3) rfl rfl rfl [3, 5] rfl) rfl rfl hl.1 rfl (lv_room (Nat.le_of_ble_eq_true rfl)) dX5_judge_40 ⟨Nat.zero_le _, Nat.zero_le _⟩) (fun H locs hP hS => ?_)
          refine lv_istore (lv' := [(7, .int (thr ne (b ||| (thr ne b gu)) gu)), (6, .int (b ||| (thr ne b gu))), (0, .ref se), (1, .ref nt), (2, .int (nI t)), (4, .int gu), (5, .int (nI k))]) hx hb dX5_judge_43 hl (by decide) rfl (fun ls hl => ?_)
          refine r_iinc (lv' := [(5, .int (nI (k + 1))), (7, .int (thr ne (b ||| (thr ne b gu)) gu)), (6, .int (b ||| (thr ne b gu))), (0, .ref se), (1, .ref nt), (2, .int (nI t)), (4, .int gu)]) hx hb 6 k dX5_judge_45 hl rfl (by decide) rfl (fun ls hl => ?_)
          refine lv_goto (tgt := 16) hx hb dX5_judge_48 (by decide) ?_
          exact ih_lp (k + 1) (b ||| (thr ne b gu)) (by omega) (by rw [← hq, show 20 - k = (20 - (k + 1)) + 1 by omega, judgeL, if_neg c_25]) (by omega) ls _ _ (lv_sub hl [3, 4, 5, 6, 0, 2, 1] rfl) hP hD hS
  exact lp _ t bu (by omega) rfl (Nat.lt_succ_self _) ls _ _ (lv_sub hl [3, 4, 5, 7, 2, 1, 0] rfl) hP hD hS
theorem kdX5_look : yX5_look.cls = RX5 ∧ yX5_look.cls ≠ "java/lang/invoke/MethodHandle" ∧ yX5_look.cls ≠ "java/lang/invoke/VarHandle" ∧ (parseMethodDescriptor yX5_look.desc).map (fun d => d.parameters.length) = some 6 := ⟨rfl, by decide +kernel, by decide +kernel, by decide +kernel⟩
set_option maxRecDepth 100000 in
set_option maxHeartbeats 1000000 in
theorem kX5_look (l : Launch) (D : va_G) (cI cJ : ClassId) (se pv wy kp : Nat) (bd : Int32) (av : Nat) (ke : Int32) (ow : Row) (nt aw ap an ae nn mm : Nat) (wo pr ne : Row) (d t : Nat) (bu gu v left : Int32) (x : Ss) (y : Ss) (h1 : 1 ≤ t) (h2 : t ≤ 8) (hrec : t < 8 → ∀ (bu gu mo : Int32) (x : Ss), ∀ (y : Ss), y = seekF (nI nn) wo pr ne ow ke bd d (t + 1) bu gu mo x → Met l yX5_seek wsX5_seek (rmS d) (mPre D cI cJ [.ref se, .ref nt, .int (nI (t + 1)), .int bu, .int gu, .int mo] [(se, .inr (5, [.ref pv, .int x.1, .int x.2.1, .int x.2.2.1, .int (zb (x.2.2.2.1 = true)), .int bd, .ref wy, .ref kp])), (wy, .inl (cI, 8, .inl x.2.2.2.2.1)), (kp, .inl (cI, 8, .inl x.2.2.2.2.2)), (pv, .inr (4, [.ref av, .int ke])), (av, .inl (cI, 8, .inl ow)), (nt, .inr (3, [.int (nI nn), .int (nI mm), .ref aw, .ref ap, .ref an, .ref ae])), (aw, .inl (cI, 10, .inl wo)), (ap, .inl (cI, 10, .inl pr)), (an, .inl (cI, 10, .inl ne))]) (mQv D (fun (_ : Unit) => True) (fun (_ : Unit) => [(se, .inr (5, [.ref pv, .int y.1, .int y.2.1, .int y.2.2.1, .int (zb (y.2.2.2.1 = true)), .int bd, .ref wy, .ref kp])), (wy, .inl (cI, 8, .inl y.2.2.2.2.1)), (kp, .inl (cI, 8, .inl y.2.2.2.2.2)), (pv, .inr (4, [.ref av, .int ke])), (av, .inl (cI, 8, .inl ow)), (nt, .inr (3, [.int (nI nn), .int (nI mm), .ref aw, .ref ap, .ref an, .ref ae])), (aw, .inl (cI, 10, .inl wo)), (ap, .inl (cI, 10, .inl pr)), (an, .inl (cI, 10, .inl ne))]) [(se, .inr (5, [.ref pv, .int x.1, .int x.2.1, .int x.2.2.1, .int (zb (x.2.2.2.1 = true)), .int bd, .ref wy, .ref kp])), (wy, .inl (cI, 8, .inl x.2.2.2.2.1)), (kp, .inl (cI, 8, .inl x.2.2.2.2.2)), (pv, .inr (4, [.ref av, .int ke])), (av, .inl (cI, 8, .inl ow)), (nt, .inr (3, [.int (nI nn), .int (nI mm), .ref aw, .ref ap, .ref an, .ref ae])), (aw, .inl (cI, 10, .inl wo)), (ap, .inl (cI, 10, .inl pr)), (an, .inl (cI, 10, .inl ne))]) 0 0 (mA [(se, .inr (5, [.ref pv, .int x.1, .int x.2.1, .int x.2.2.1, .int (zb (x.2.2.2.1 = true)), .int bd, .ref wy, .ref kp])), (wy, .inl (cI, 8, .inl x.2.2.2.2.1)), (kp, .inl (cI, 8, .inl x.2.2.2.2.2)), (pv, .inr (4, [.ref av, .int ke])), (av, .inl (cI, 8, .inl ow)), (nt, .inr (3, [.int (nI nn), .int (nI mm), .ref aw, .ref ap, .ref an, .ref ae])), (aw, .inl (cI, 10, .inl wo)), (ap, .inl (cI, 10, .inl pr)), (an, .inl (cI, 10, .inl ne))])) (hy : y = lookF (seekF (nI nn) wo pr ne ow ke bd d) (nI nn) wo ne ow ke bd t bu gu v left x) : Met l yX5_look wsX5_look (rmL d) (mPre D cI cJ [.ref se, .ref nt, .int (nI t), .int bu, .int gu, .int v, .int left] [(se, .inr (5, [.ref pv, .int x.1, .int x.2.1, .int x.2.2.1, .int (zb (x.2.2.2.1 = true)), .int bd, .ref wy, .ref kp])), (wy, .inl (cI, 8, .inl x.2.2.2.2.1)), (kp, .inl (cI, 8, .inl x.2.2.2.2.2)), (pv, .inr (4, [.ref av, .int ke])), (av, .inl (cI, 8, .inl ow)), (nt, .inr (3, [.int (nI nn), .int (nI mm), .ref aw, .ref ap, .ref an, .ref ae])), (aw, .inl (cI, 10, .inl wo)), (ap, .inl (cI, 10, .inl pr)), (an, .inl (cI, 10, .inl ne))]) (mQv D (fun (_ : Unit) => True) (fun (_ : Unit) => [(se, .inr (5, [.ref pv, .int y.1, .int y.2.1, .int y.2.2.1, .int (zb (y.2.2.2.1 = true)), .int bd, .ref wy, .ref kp])), (wy, .inl (cI, 8, .inl y.2.2.2.2.1)), (kp, .inl (cI, 8, .inl y.2.2.2.2.2)), (pv, .inr (4, [.ref av, .int ke])), (av, .inl (cI, 8, .inl ow)), (nt, .inr (3, [.int (nI nn), .int (nI mm), .ref aw, .ref ap, .ref an, .ref ae])), (aw, .inl (cI, 10, .inl wo)), (ap, .inl (cI, 10, .inl pr)), (an, .inl (cI, 10, .inl ne))]) [(se, .inr (5, [.ref pv, .int x.1, .int x.2.1, .int x.2.2.1, .int (zb (x.2.2.2.1 = true)), .int bd, .ref wy, .ref kp])), (wy, .inl (cI, 8, .inl x.2.2.2.2.1)), (kp, .inl (cI, 8, .inl x.2.2.2.2.2)), (pv, .inr (4, [.ref av, .int ke])), (av, .inl (cI, 8, .inl ow)), (nt, .inr (3, [.int (nI nn), .int (nI mm), .ref aw, .ref ap, .ref an, .ref ae])), (aw, .inl (cI, 10, .inl wo)), (ap, .inl (cI, 10, .inl pr)), (an, .inl (cI, 10, .inl ne))]) 0 0 (mA [(se, .inr (5, [.ref pv, .int x.1, .int x.2.1, .int x.2.2.1, .int (zb (x.2.2.2.1 = true)), .int bd, .ref wy, .ref kp])), (wy, .inl (cI, 8, .inl x.2.2.2.2.1)), (kp, .inl (cI, 8, .inl x.2.2.2.2.2)), (pv, .inr (4, [.ref av, .int ke])), (av, .inl (cI, 8, .inl ow)), (nt, .inr (3, [.int (nI nn), .int (nI mm), .ref aw, .ref ap, .ref an, .ref ae])), (aw, .inl (cI, 10, .inl wo)), (ap, .inl (cI, 10, .inl pr)), (an, .inl (cI, 10, .inl ne))]) := by
  refine startM (cc := cX5_look) (maxL := 9) (ret := none) (by decide) rfl (Nat.le_of_ble_eq_true rfl) ?_
  intro p e s m args below meth c ls Q A hA hQ hx hb hr hlocks hml hown hts hK hN hP hD hl hin
  have hown : s.vm.findClass RX5 = some m.cls := hown
  have hi_5 : ∀ w ∈ wsX50, w ∈ wsX5_look := by decide +kernel
  have hf_12 := hts (.fieldLink RX5 12 "FireNets$Search" "purses" "LFireNets$Purses;") (by decide +kernel)
  have hf_18 := hts (.fieldLink RX5 18 "FireNets$Search" "way" "[I") (by decide +kernel)
  have hf_29 := hts (.fieldLink RX5 29 "FireNets$Search" "bound" "I") (by decide +kernel)
  have hf_33 := hts (.fieldLink RX5 33 "FireNets$Search" "looks" "I") (by decide +kernel)
  have hf_36 := hts (.fieldLink RX5 36 "FireNets$Search" "spent" "Z") (by decide +kernel)
  have hini_RX6 := hts (.initialized RX6) (by decide +kernel)
  have hst_X6_within := hts (.static yX6_within) (by decide +kernel)
  have hS : va_S A s.heap s.heap [] := va_S.rf
  have hl : lv_has ls 9 [(0, .ref se), (1, .ref nt), (2, .int (nI t)), (3, .int bu), (4, .int gu), (5, .int v), (6, .int left)] := hl
  have hP : va_P D vwCl [(se, .inr (5, [.ref pv, .int x.1, .int x.2.1, .int x.2.2.1, .int (zb (x.2.2.2.1 = true)), .int bd, .ref wy, .ref kp])), (wy, .inl (cI, 8, .inl x.2.2.2.2.1)), (kp, .inl (cI, 8, .inl x.2.2.2.2.2)), (pv, .inr (4, [.ref av, .int ke])), (av, .inl (cI, 8, .inl ow)), (nt, .inr (3, [.int (nI nn), .int (nI mm), .ref aw, .ref ap, .ref an, .ref ae])), (aw, .inl (cI, 10, .inl wo)), (ap, .inl (cI, 10, .inl pr)), (an, .inl (cI, 10, .inl ne))] s.heap := hP
  subst hy
  refine lv_aload_n hx hb dX5_look_0 rfl (lv_at hl 0 rfl) ?_
  refine va_get (D := D) (ci := 5) (v := .int x.1) (C := RX5) (T := TX5) (N := 8) hx hb hts hi_5 hown hK hP 0 rfl rfl 1 (by decide) hf_33 (fun _ h9 => h9) rfl dX5_look_1 ?_
  refine lv_aload_n hx hb dX5_look_4 rfl (lv_at hl 0 rfl) ?_
  refine va_get (D := D) (ci := 5) (v := .int bd) (C := RX5) (T := TX5) (N := 8) hx hb hts hi_5 hown hK hP 0 rfl rfl 5 (by decide) hf_29 (fun _ h9 => h9) rfl dX5_look_5 ?_
  refine lv_icmp_lt (tgt := 17) hx hb dX5_look_8 (by decide) (fun c_8 => ?_) (fun c_8 => ?_)
  · refine lv_aload_n hx hb dX5_look_17 rfl (lv_at hl 0 rfl) ?_
    refine lv_dup hx hb dX5_look_18 rfl ?_
    refine va_get (D := D) (ci := 5) (v := .int x.1) (C := RX5) (T := TX5) (N := 8) hx hb hts hi_5 hown hK hP 0 rfl rfl 1 (by decide) hf_33 (fun _ h9 => h9) rfl dX5_look_19 ?_
    refine lv_iconst (v := 1) hx hb dX5_look_22 (by decide) ?_
    refine lv_iadd hx hb dX5_look_23 ?_
    refine va_put (D := D) (ci := 5) (v := .int (x.1 + 1)) (ty := .int) (C := RX5) (T := TX5) (N := 8) hx hb hts hi_5 tyX5 tyX5_ok nmX5 hown hK hP hD hS 0 rfl rfl 1 (by decide) hf_33 (fun _ h9 => h9) rfl (by decide +kernel) rfl rfl (Nat.le_of_ble_eq_true rfl) dX5_look_24 (fun H locs hP hD hS => ?_)
    have hP : va_P D vwCl [(se, .inr (5, [.ref pv, .int (x.1 + 1), .int x.2.1, .int x.2.2.1, .int (zb (x.2.2.2.1 = true)), .int bd, .ref wy, .ref kp])), (wy, .inl (cI, 8, .inl x.2.2.2.2.1)), (kp, .inl (cI, 8, .inl x.2.2.2.2.2)), (pv, .inr (4, [.ref av, .int ke])), (av, .inl (cI, 8, .inl ow)), (nt, .inr (3, [.int (nI nn), .int (nI mm), .ref aw, .ref ap, .ref an, .ref ae])), (aw, .inl (cI, 10, .inl wo)), (ap, .inl (cI, 10, .inl pr)), (an, .inl (cI, 10, .inl ne))] H := hP
    have hD : va_D A [(se, .inr (5, [.ref pv, .int (x.1 + 1), .int x.2.1, .int x.2.2.1, .int (zb (x.2.2.2.1 = true)), .int bd, .ref wy, .ref kp])), (wy, .inl (cI, 8, .inl x.2.2.2.2.1)), (kp, .inl (cI, 8, .inl x.2.2.2.2.2)), (pv, .inr (4, [.ref av, .int ke])), (av, .inl (cI, 8, .inl ow)), (nt, .inr (3, [.int (nI nn), .int (nI mm), .ref aw, .ref ap, .ref an, .ref ae])), (aw, .inl (cI, 10, .inl wo)), (ap, .inl (cI, 10, .inl pr)), (an, .inl (cI, 10, .inl ne))] := hD
    refine lv_iload_n hx hb dX5_look_27 rfl (lv_at hl 2 rfl) ?_
    refine lv_iconst (v := 1) hx hb dX5_look_28 (by decide) ?_
    refine lv_bipush (v := 8) hx hb dX5_look_29 (by decide) ?_
    refine goRI hP hS (va_runSN (As := [.int (nI t), .int 1, .int 8]) (rest := []) ⟨hx, hb, hml, hown, hts⟩ (kX6_within l D cI cJ (nI t) 1 8) ⟨va_cnB (host := "FireNets") 3 hts gX5_look_X6_within_n25 rfl rfl rfl (hN _ nwm_RX5_25) hini_RX6 kdX6_within.2 ⟨by show _ + 1 ≤ 2 * d + 9; first | (simp only [rmS]; omega) | exact Nat.le_trans (Nat.le_of_ble_eq_true rfl) (Nat.le_add_left 9 (2 * d)), by show _ ≤ 60 * d + 290; first | (simp only [rmS]; omega) | exact Nat.le_trans (Nat.le_of_ble_eq_true rfl) (Nat.le_add_left 290 (60 * d))⟩, hst_X6_within, trivial⟩ (preR hK hN hP [] rfl) rfl rfl hl.1 rfl (lv_room (Nat.le_of_ble_eq_true rfl)) dX5_look_31 ⟨Nat.zero_le _, Nat.zero_le _⟩) (fun H locs hP hS => ?_)
    refine r_zne (tgt := 38) hx hb dX5_look_34 (by decide) (fun c_34 => ?_) (fun c_34 => ?_)
    · refine lv_aload_n hx hb dX5_look_38 rfl (lv_at hl 0 rfl) ?_
      refine va_get (D := D) (ci := 5) (v := .ref wy) (C := RX5) (T := TX5) (N := 8) hx hb hts hi_5 hown hK hP 0 rfl rfl 6 (by decide) hf_18 (fun _ h9 => h9) rfl dX5_look_39 ?_
      refine lv_iload_n hx hb dX5_look_42 rfl (lv_at hl 2 rfl) ?_
      refine lv_iconst (v := 1) hx hb dX5_look_43 (by decide) ?_
      refine lv_isub hx hb dX5_look_44 ?_
      refine r_top (x' := nI (t - 1)) (pk_sub (a := t) (b := 1) (by omega)) ?_
      refine lv_iload hx hb dX5_look_45 (lv_at hl 5 rfl) ?_
      refine r_iast hx hb hK hP hD hS 1 rfl (t - 1) rfl (by omega) (by omega) dX5_look_47 (fun H locs hP hD hS => ?_)
      have hP : va_P D vwCl [(se, .inr (5, [.ref pv, .int (x.1 + 1), .int x.2.1, .int x.2.2.1, .int (zb (x.2.2.2.1 = true)), .int bd, .ref wy, .ref kp])), (wy, .inl (cI, 8, .inl (upd x.2.2.2.2.1 (t - 1) v))), (kp, .inl (cI, 8, .inl x.2.2.2.2.2)), (pv, .inr (4, [.ref av, .int ke])), (av, .inl (cI, 8, .inl ow)), (nt, .inr (3, [.int (nI nn), .int (nI mm), .ref aw, .ref ap, .ref an, .ref ae])), (aw, .inl (cI, 10, .inl wo)), (ap, .inl (cI, 10, .inl pr)), (an, .inl (cI, 10, .inl ne))] H := hP
      have hD : va_D A [(se, .inr (5, [.ref pv, .int (x.1 + 1), .int x.2.1, .int x.2.2.1, .int (zb (x.2.2.2.1 = true)), .int bd, .ref wy, .ref kp])), (wy, .inl (cI, 8, .inl (upd x.2.2.2.2.1 (t - 1) v))), (kp, .inl (cI, 8, .inl x.2.2.2.2.2)), (pv, .inr (4, [.ref av, .int ke])), (av, .inl (cI, 8, .inl ow)), (nt, .inr (3, [.int (nI nn), .int (nI mm), .ref aw, .ref ap, .ref an, .ref ae])), (aw, .inl (cI, 10, .inl wo)), (ap, .inl (cI, 10, .inl pr)), (an, .inl (cI, 10, .inl ne))] := hD
      refine lv_iload hx hb dX5_look_48 (lv_at hl 4 rfl) ?_
      refine lv_iload hx hb dX5_look_50 (lv_at hl 5 rfl) ?_
      refine lv_ior hx hb dX5_look_52 ?_
      refine lv_istore (lv' := [(7, .int (gu ||| v)), (0, .ref se), (1, .ref nt), (2, .int (nI t)), (3, .int bu), (4, .int gu), (5, .int v), (6, .int left)]) hx hb dX5_look_53 hl (by decide) rfl (fun ls hl => ?_)
      refine lv_aload_n hx hb dX5_look_55 rfl (lv_at hl 2 rfl) ?_
      refine lv_iload_n hx hb dX5_look_56 rfl (lv_at hl 4 rfl) ?_
      refine lv_iload hx hb dX5_look_57 (lv_at hl 0 rfl) ?_
      refine goRI hP hS (va_runV (As := [.int bu, .int (gu ||| v)]) (rest := []) ⟨hx, hb, hml, hown, hts⟩ (kX3_threatened l D cI cJ nt aw ap an ae nn mm ne bu (gu ||| v)) (cwV 2 hts gX5_look_X3_threatened rfl rfl rfl kdX3_threatened ⟨by show _ + 1 ≤ 2 * d + 9; first | (simp only [rmS]; omega) | exact Nat.le_trans (Nat.le_of_ble_eq_true rfl) (Nat.le_add_left 9 (2 * d)), by show _ ≤ 60 * d + 290; first | (simp only [rmS]; omega) | exact Nat.le_trans (Nat.le_of_ble_eq_true rfl) (Nat.le_add_left 290 (60 * d))⟩) (preRV hK hN hP 5 (ci := 3) rfl rfl rfl [5, 8] rfl) rfl rfl hl.1 rfl (lv_room (Nat.le_of_ble_eq_true rfl)) dX5_look_59 ⟨Nat.zero_le _, Nat.zero_le _⟩) (fun H locs hP hS => ?_)
      refine lv_istore (lv' := [(8, .int (thr ne bu (gu ||| v))), (7, .int (gu ||| v)), (0, .ref se), (1, .ref nt), (2, .int (nI t)), (3, .int bu), (4, .int gu), (5, .int v), (6, .int left)]) hx hb dX5_look_62 hl (by decide) rfl (fun ls hl => ?_)
      refine lv_iload hx hb dX5_look_64 (lv_at hl 0 rfl) ?_
      refine lv_if_eq (tgt := 104) hx hb dX5_look_66 (by decide) (fun c_66 => ?_) (fun c_66 => ?_)
      · refine lv_aload_n hx hb dX5_look_104 rfl (lv_at hl 2 rfl) ?_
        refine lv_aload_n hx hb dX5_look_105 rfl (lv_at hl 3 rfl) ?_
        refine lv_iload_n hx hb dX5_look_106 rfl (lv_at hl 4 rfl) ?_
        refine lv_iload_n hx hb dX5_look_107 rfl (lv_at hl 5 rfl) ?_
        refine lv_iload hx hb dX5_look_108 (lv_at hl 1 rfl) ?_
        refine goMV hP hD hS (va_runV (As := [.ref nt, .int (nI t), .int bu, .int (gu ||| v)]) (rest := []) ⟨hx, hb, hml, hown, hts⟩ (kX5_judge l D cI cJ se pv wy kp bd (x.1 + 1, x.2.1, x.2.2.1, x.2.2.2.1, upd x.2.2.2.2.1 (t - 1) v, x.2.2.2.2.2) nt aw ap an ae nn mm wo ne t bu (gu ||| v) (by omega) (by omega)) (cwV 4 hts gX5_look_X5_judge rfl rfl rfl kdX5_judge ⟨by show _ + 1 ≤ 2 * d + 9; first | (simp only [rmS]; omega) | exact Nat.le_trans (Nat.le_of_ble_eq_true rfl) (Nat.le_add_left 9 (2 * d)), by show _ ≤ 60 * d + 290; first | (simp only [rmS]; omega) | exact Nat.le_trans (Nat.le_of_ble_eq_true rfl) (Nat.le_add_left 290 (60 * d))⟩) (preMV hK hN hP hD 0 (ci := 5) rfl rfl rfl [0, 1, 2, 5, 6, 8] rfl (by decide)) rfl rfl hl.1 rfl (lv_room (Nat.le_of_ble_eq_true rfl)) dX5_look_110 ⟨Nat.zero_le _, Nat.zero_le _⟩) [0, 1, 2, 5, 6, 8] rfl (by decide) (fun _ => (show ([se, wy, kp, nt, aw, an] : List Nat) = [se, wy, kp, nt, aw, an] from rfl)) (fun _ H locs hp_110 hP hD hS => ?_)
        have hP : va_P D vwCl [(se, .inr (5, [.ref pv, .int ((judgeF (nI nn) wo ne t bu (gu ||| v) (x.1 + 1, x.2.1, x.2.2.1, x.2.2.2.1, upd x.2.2.2.2.1 (t - 1) v, x.2.2.2.2.2)).1), .int ((judgeF (nI nn) wo ne t bu (gu ||| v) (x.1 + 1, x.2.1, x.2.2.1, x.2.2.2.1, upd x.2.2.2.2.1 (t - 1) v, x.2.2.2.2.2)).2.1), .int ((judgeF (nI nn) wo ne t bu (gu ||| v) (x.1 + 1, x.2.1, x.2.2.1, x.2.2.2.1, upd x.2.2.2.2.1 (t - 1) v, x.2.2.2.2.2)).2.2.1), .int (zb ((judgeF (nI nn) wo ne t bu (gu ||| v) (x.1 + 1, x.2.1, x.2.2.1, x.2.2.2.1, upd x.2.2.2.2.1 (t - 1) v, x.2.2.2.2.2)).2.2.2.1 = true)), .int bd, .ref wy, .ref kp])), (wy, .inl (cI, 8, .inl ((judgeF (nI nn) wo ne t bu (gu ||| v) (x.1 + 1, x.2.1, x.2.2.1, x.2.2.2.1, upd x.2.2.2.2.1 (t - 1) v, x.2.2.2.2.2)).2.2.2.2.1))), (kp, .inl (cI, 8, .inl ((judgeF (nI nn) wo ne t bu (gu ||| v) (x.1 + 1, x.2.1, x.2.2.1, x.2.2.2.1, upd x.2.2.2.2.1 (t - 1) v, x.2.2.2.2.2)).2.2.2.2.2))), (pv, .inr (4, [.ref av, .int ke])), (av, .inl (cI, 8, .inl ow)), (nt, .inr (3, [.int (nI nn), .int (nI mm), .ref aw, .ref ap, .ref an, .ref ae])), (aw, .inl (cI, 10, .inl wo)), (ap, .inl (cI, 10, .inl pr)), (an, .inl (cI, 10, .inl ne))] H := hP
        have hD : va_D A [(se, .inr (5, [.ref pv, .int ((judgeF (nI nn) wo ne t bu (gu ||| v) (x.1 + 1, x.2.1, x.2.2.1, x.2.2.2.1, upd x.2.2.2.2.1 (t - 1) v, x.2.2.2.2.2)).1), .int ((judgeF (nI nn) wo ne t bu (gu ||| v) (x.1 + 1, x.2.1, x.2.2.1, x.2.2.2.1, upd x.2.2.2.2.1 (t - 1) v, x.2.2.2.2.2)).2.1), .int ((judgeF (nI nn) wo ne t bu (gu ||| v) (x.1 + 1, x.2.1, x.2.2.1, x.2.2.2.1, upd x.2.2.2.2.1 (t - 1) v, x.2.2.2.2.2)).2.2.1), .int (zb ((judgeF (nI nn) wo ne t bu (gu ||| v) (x.1 + 1, x.2.1, x.2.2.1, x.2.2.2.1, upd x.2.2.2.2.1 (t - 1) v, x.2.2.2.2.2)).2.2.2.1 = true)), .int bd, .ref wy, .ref kp])), (wy, .inl (cI, 8, .inl ((judgeF (nI nn) wo ne t bu (gu ||| v) (x.1 + 1, x.2.1, x.2.2.1, x.2.2.2.1, upd x.2.2.2.2.1 (t - 1) v, x.2.2.2.2.2)).2.2.2.2.1))), (kp, .inl (cI, 8, .inl ((judgeF (nI nn) wo ne t bu (gu ||| v) (x.1 + 1, x.2.1, x.2.2.1, x.2.2.2.1, upd x.2.2.2.2.1 (t - 1) v, x.2.2.2.2.2)).2.2.2.2.2))), (pv, .inr (4, [.ref av, .int ke])), (av, .inl (cI, 8, .inl ow)), (nt, .inr (3, [.int (nI nn), .int (nI mm), .ref aw, .ref ap, .ref an, .ref ae])), (aw, .inl (cI, 10, .inl wo)), (ap, .inl (cI, 10, .inl pr)), (an, .inl (cI, 10, .inl ne))] := hD
        exact endMV () hx hb hr hlocks hA hQ hS hP dX5_look_113 (by rw [lookF, if_pos c_8, if_neg (fun h => h.1 c_66)] <;> rfl) trivial
      · refine lv_iload_n hx hb dX5_look_69 rfl (lv_at hl 4 rfl) ?_
        refine lv_bipush (v := 8) hx hb dX5_look_70 (by decide) ?_
        refine r_icmp_ge (tgt := 104) hx hb t 8 dX5_look_72 (by decide) rfl rfl (by omega) (by omega) (fun c_72 => ?_) (fun c_72 => ?_)
        · refine lv_aload_n hx hb dX5_look_104 rfl (lv_at hl 2 rfl) ?_
          refine lv_aload_n hx hb dX5_look_105 rfl (lv_at hl 3 rfl) ?_
          refine lv_iload_n hx hb dX5_look_106 rfl (lv_at hl 4 rfl) ?_
          refine lv_iload_n hx hb dX5_look_107 rfl (lv_at hl 5 rfl) ?_
          refine lv_iload hx hb dX5_look_108 (lv_at hl 1 rfl) ?_
          refine goMV hP hD hS (va_runV (As := [.ref nt, .int (nI t), .int bu, .int (gu ||| v)]) (rest := []) ⟨hx, hb, hml, hown, hts⟩ (kX5_judge l D cI cJ se pv wy kp bd (x.1 + 1, x.2.1, x.2.2.1, x.2.2.2.1, upd x.2.2.2.2.1 (t - 1) v, x.2.2.2.2.2) nt aw ap an ae nn mm wo ne t bu (gu ||| v) (by omega) (by omega)) (cwV 4 hts gX5_look_X5_judge rfl rfl rfl kdX5_judge ⟨by show _ + 1 ≤ 2 * d + 9; first | (simp only [rmS]; omega) | exact Nat.le_trans (Nat.le_of_ble_eq_true rfl) (Nat.le_add_left 9 (2 * d)), by show _ ≤ 60 * d + 290; first | (simp only [rmS]; omega) | exact Nat.le_trans (Nat.le_of_ble_eq_true rfl) (Nat.le_add_left 290 (60 * d))⟩) (preMV hK hN hP hD 0 (ci := 5) rfl rfl rfl [0, 1, 2, 5, 6, 8] rfl (by decide)) rfl rfl hl.1 rfl (lv_room (Nat.le_of_ble_eq_true rfl)) dX5_look_110 ⟨Nat.zero_le _, Nat.zero_le _⟩) [0, 1, 2, 5, 6, 8] rfl (by decide) (fun _ => (show ([se, wy, kp, nt, aw, an] : List Nat) = [se, wy, kp, nt, aw, an] from rfl)) (fun _ H locs hp_110 hP hD hS => ?_)
          have hP : va_P D vwCl [(se, .inr (5, [.ref pv, .int ((judgeF (nI nn) wo ne t bu (gu ||| v) (x.1 + 1, x.2.1, x.2.2.1, x.2.2.2.1, upd x.2.2.2.2.1 (t - 1) v, x.2.2.2.2.2)).1), .int ((judgeF (nI nn) wo ne t bu (gu ||| v) (x.1 + 1, x.2.1, x.2.2.1, x.2.2.2.1, upd x.2.2.2.2.1 (t - 1) v, x.2.2.2.2.2)).2.1), .int ((judgeF (nI nn) wo ne t bu (gu ||| v) (x.1 + 1, x.2.1, x.2.2.1, x.2.2.2.1, upd x.2.2.2.2.1 (t - 1) v, x.2.2.2.2.2)).2.2.1), .int (zb ((judgeF (nI nn) wo ne t bu (gu ||| v) (x.1 + 1, x.2.1, x.2.2.1, x.2.2.2.1, upd x.2.2.2.2.1 (t - 1) v, x.2.2.2.2.2)).2.2.2.1 = true)), .int bd, .ref wy, .ref kp])), (wy, .inl (cI, 8, .inl ((judgeF (nI nn) wo ne t bu (gu ||| v) (x.1 + 1, x.2.1, x.2.2.1, x.2.2.2.1, upd x.2.2.2.2.1 (t - 1) v, x.2.2.2.2.2)).2.2.2.2.1))), (kp, .inl (cI, 8, .inl ((judgeF (nI nn) wo ne t bu (gu ||| v) (x.1 + 1, x.2.1, x.2.2.1, x.2.2.2.1, upd x.2.2.2.2.1 (t - 1) v, x.2.2.2.2.2)).2.2.2.2.2))), (pv, .inr (4, [.ref av, .int ke])), (av, .inl (cI, 8, .inl ow)), (nt, .inr (3, [.int (nI nn), .int (nI mm), .ref aw, .ref ap, .ref an, .ref ae])), (aw, .inl (cI, 10, .inl wo)), (ap, .inl (cI, 10, .inl pr)), (an, .inl (cI, 10, .inl ne))] H := hP
          have hD : va_D A [(se, .inr (5, [.ref pv, .int ((judgeF (nI nn) wo ne t bu (gu ||| v) (x.1 + 1, x.2.1, x.2.2.1, x.2.2.2.1, upd x.2.2.2.2.1 (t - 1) v, x.2.2.2.2.2)).1), .int ((judgeF (nI nn) wo ne t bu (gu ||| v) (x.1 + 1, x.2.1, x.2.2.1, x.2.2.2.1, upd x.2.2.2.2.1 (t - 1) v, x.2.2.2.2.2)).2.1), .int ((judgeF (nI nn) wo ne t bu (gu ||| v) (x.1 + 1, x.2.1, x.2.2.1, x.2.2.2.1, upd x.2.2.2.2.1 (t - 1) v, x.2.2.2.2.2)).2.2.1), .int (zb ((judgeF (nI nn) wo ne t bu (gu ||| v) (x.1 + 1, x.2.1, x.2.2.1, x.2.2.2.1, upd x.2.2.2.2.1 (t - 1) v, x.2.2.2.2.2)).2.2.2.1 = true)), .int bd, .ref wy, .ref kp])), (wy, .inl (cI, 8, .inl ((judgeF (nI nn) wo ne t bu (gu ||| v) (x.1 + 1, x.2.1, x.2.2.1, x.2.2.2.1, upd x.2.2.2.2.1 (t - 1) v, x.2.2.2.2.2)).2.2.2.2.1))), (kp, .inl (cI, 8, .inl ((judgeF (nI nn) wo ne t bu (gu ||| v) (x.1 + 1, x.2.1, x.2.2.1, x.2.2.2.1, upd x.2.2.2.2.1 (t - 1) v, x.2.2.2.2.2)).2.2.2.2.2))), (pv, .inr (4, [.ref av, .int ke])), (av, .inl (cI, 8, .inl ow)), (nt, .inr (3, [.int (nI nn), .int (nI mm), .ref aw, .ref ap, .ref an, .ref ae])), (aw, .inl (cI, 10, .inl wo)), (ap, .inl (cI, 10, .inl pr)), (an, .inl (cI, 10, .inl ne))] := hD
          exact endMV () hx hb hr hlocks hA hQ hS hP dX5_look_113 (by rw [lookF, if_pos c_8, if_neg (fun h => absurd h.2 (by omega))] <;> rfl) trivial
        · refine lv_aload_n hx hb dX5_look_75 rfl (lv_at hl 2 rfl) ?_
          refine lv_aload_n hx hb dX5_look_76 rfl (lv_at hl 3 rfl) ?_
          refine lv_iload_n hx hb dX5_look_77 rfl (lv_at hl 4 rfl) ?_
          refine lv_iconst (v := 1) hx hb dX5_look_78 (by decide) ?_
          refine lv_iadd hx hb dX5_look_79 ?_
          refine r_top (x' := nI (t + 1)) (nI_add t 1) ?_
          refine lv_iload_n hx hb dX5_look_80 rfl (lv_at hl 5 rfl) ?_
          refine lv_iload hx hb dX5_look_81 (lv_at hl 0 rfl) ?_
          refine lv_ior hx hb dX5_look_83 ?_
          refine lv_iload hx hb dX5_look_84 (lv_at hl 1 rfl) ?_
          refine lv_aload_n hx hb dX5_look_86 rfl (lv_at hl 2 rfl) ?_
          refine va_get (D := D) (ci := 5) (v := .ref pv) (C := RX5) (T := TX5) (N := 8) hx hb hts hi_5 hown hK hP 0 rfl rfl 0 (by decide) hf_12 (fun _ h9 => h9) rfl dX5_look_87 ?_
          refine lv_iload_n hx hb dX5_look_90 rfl (lv_at hl 4 rfl) ?_
          refine lv_iconst (v := 1) hx hb dX5_look_91 (by decide) ?_
          refine lv_iadd hx hb dX5_look_92 ?_
          refine r_top (x' := nI (t + 1)) (nI_add t 1) ?_
          refine lv_iload hx hb dX5_look_93 (lv_at hl 8 rfl) ?_
          refine goRI hP hS (va_runV (As := [.int (nI (t + 1)), .int left]) (rest := [.int (gu ||| v), .int (bu ||| (thr ne bu (gu ||| v))), .int (nI (t + 1)), .ref nt, .ref se]) ⟨hx, hb, hml, hown, hts⟩ (kX4_money l D cI cJ pv av (t + 1) ke left ow (by omega) (by omega)) (cwV 2 hts gX5_look_X4_money rfl rfl rfl kdX4_money ⟨by show _ + 1 ≤ 2 * d + 9; first | (simp only [rmS]; omega) | exact Nat.le_trans (Nat.le_of_ble_eq_true rfl) (Nat.le_add_left 9 (2 * d)), by show _ ≤ 60 * d + 290; first | (simp only [rmS]; omega) | exact Nat.le_trans (Nat.le_of_ble_eq_true rfl) (Nat.le_add_left 290 (60 * d))⟩) (preRV hK hN hP 3 (ci := 4) rfl rfl rfl [3, 4] rfl) rfl rfl hl.1 rfl (lv_room (Nat.le_of_ble_eq_true rfl)) dX5_look_95 ⟨Nat.zero_le _, Nat.zero_le _⟩) (fun H locs hP hS => ?_)
          obtain ⟨y_98, hy_98⟩ : ∃ z : Ss, z = seekF (nI nn) wo pr ne ow ke bd d (t + 1) (bu ||| (thr ne bu (gu ||| v))) (gu ||| v) (moneyI ow ke (t + 1) left) (x.1 + 1, x.2.1, x.2.2.1, x.2.2.2.1, upd x.2.2.2.2.1 (t - 1) v, x.2.2.2.2.2) := ⟨_, rfl⟩
          refine goMV hP hD hS (va_runV (As := [.ref nt, .int (nI (t + 1)), .int (bu ||| (thr ne bu (gu ||| v))), .int (gu ||| v), .int (moneyI ow ke (t + 1) left)]) (rest := []) ⟨hx, hb, hml, hown, hts⟩ (hrec c_72 (bu ||| (thr ne bu (gu ||| v))) (gu ||| v) (moneyI ow ke (t + 1) left) (x.1 + 1, x.2.1, x.2.2.1, x.2.2.2.1, upd x.2.2.2.2.1 (t - 1) v, x.2.2.2.2.2) y_98 hy_98) (cwV 5 hts gX5_look_X5_seek rfl rfl rfl kdX5_seek ⟨by show _ + 1 ≤ 2 * d + 9; first | (simp only [rmS]; omega) | exact Nat.le_trans (Nat.le_of_ble_eq_true rfl) (Nat.le_add_left 9 (2 * d)), by show _ ≤ 60 * d + 290; first | (simp only [rmS]; omega) | exact Nat.le_trans (Nat.le_of_ble_eq_true rfl) (Nat.le_add_left 290 (60 * d))⟩) (preMV hK hN hP hD 0 (ci := 5) rfl rfl rfl [0, 1, 2, 3, 4, 5, 6, 7, 8] rfl (by decide)) rfl rfl hl.1 rfl (lv_room (Nat.le_of_ble_eq_true rfl)) dX5_look_98 ⟨Nat.zero_le _, Nat.zero_le _⟩) [0, 1, 2, 3, 4, 5, 6, 7, 8] rfl (by decide) (fun _ => (show ([se, wy, kp, pv, av, nt, aw, ap, an] : List Nat) = [se, wy, kp, pv, av, nt, aw, ap, an] from rfl)) (fun _ H locs hp_98 hP hD hS => ?_)
          have hP : va_P D vwCl [(se, .inr (5, [.ref pv, .int y_98.1, .int y_98.2.1, .int y_98.2.2.1, .int (zb (y_98.2.2.2.1 = true)), .int bd, .ref wy, .ref kp])), (wy, .inl (cI, 8, .inl y_98.2.2.2.2.1)), (kp, .inl (cI, 8, .inl y_98.2.2.2.2.2)), (pv, .inr (4, [.ref av, .int ke])), (av, .inl (cI, 8, .inl ow)), (nt, .inr (3, [.int (nI nn), .int (nI mm), .ref aw, .ref ap, .ref an, .ref ae])), (aw, .inl (cI, 10, .inl wo)), (ap, .inl (cI, 10, .inl pr)), (an, .inl (cI, 10, .inl ne))] H := hP
          have hD : va_D A [(se, .inr (5, [.ref pv, .int y_98.1, .int y_98.2.1, .int y_98.2.2.1, .int (zb (y_98.2.2.2.1 = true)), .int bd, .ref wy, .ref kp])), (wy, .inl (cI, 8, .inl y_98.2.2.2.2.1)), (kp, .inl (cI, 8, .inl y_98.2.2.2.2.2)), (pv, .inr (4, [.ref av, .int ke])), (av, .inl (cI, 8, .inl ow)), (nt, .inr (3, [.int (nI nn), .int (nI mm), .ref aw, .ref ap, .ref an, .ref ae])), (aw, .inl (cI, 10, .inl wo)), (ap, .inl (cI, 10, .inl pr)), (an, .inl (cI, 10, .inl ne))] := hD
          refine lv_goto (tgt := 113) hx hb dX5_look_101 (by decide) ?_
          exact endMV () hx hb hr hlocks hA hQ hS hP dX5_look_113 (by rw [hy_98, lookF, if_pos c_8, if_pos ⟨c_66, c_72⟩]) trivial
    · exact absurd (i_tick h1 h2) c_34
  · refine lv_aload_n hx hb dX5_look_11 rfl (lv_at hl 0 rfl) ?_
    refine lv_iconst (v := 1) hx hb dX5_look_12 (by decide) ?_
    refine va_put (D := D) (ci := 5) (v := .int 1) (ty := .boolean) (C := RX5) (T := TX5) (N := 8) hx hb hts hi_5 tyX5 tyX5_ok nmX5 hown hK hP hD hS 0 rfl rfl 4 (by decide) hf_36 (fun _ h9 => h9) rfl (by decide +kernel) rfl rfl (Nat.le_of_ble_eq_true rfl) dX5_look_13 (fun H locs hP hD hS => ?_)
    have hP : va_P D vwCl [(se, .inr (5, [.ref pv, .int x.1, .int x.2.1, .int x.2.2.1, .int 1, .int bd, .ref wy, .ref kp])), (wy, .inl (cI, 8, .inl x.2.2.2.2.1)), (kp, .inl (cI, 8, .inl x.2.2.2.2.2)), (pv, .inr (4, [.ref av, .int ke])), (av, .inl (cI, 8, .inl ow)), (nt, .inr (3, [.int (nI nn), .int (nI mm), .ref aw, .ref ap, .ref an, .ref ae])), (aw, .inl (cI, 10, .inl wo)), (ap, .inl (cI, 10, .inl pr)), (an, .inl (cI, 10, .inl ne))] H := hP
    have hD : va_D A [(se, .inr (5, [.ref pv, .int x.1, .int x.2.1, .int x.2.2.1, .int 1, .int bd, .ref wy, .ref kp])), (wy, .inl (cI, 8, .inl x.2.2.2.2.1)), (kp, .inl (cI, 8, .inl x.2.2.2.2.2)), (pv, .inr (4, [.ref av, .int ke])), (av, .inl (cI, 8, .inl ow)), (nt, .inr (3, [.int (nI nn), .int (nI mm), .ref aw, .ref ap, .ref an, .ref ae])), (aw, .inl (cI, 10, .inl wo)), (ap, .inl (cI, 10, .inl pr)), (an, .inl (cI, 10, .inl ne))] := hD
    exact endMV () hx hb hr hlocks hA hQ hS hP dX5_look_16 (by rw [lookF, if_neg c_8] <;> rfl) trivial
set_option maxRecDepth 100000 in
set_option maxHeartbeats 1000000 in
theorem kX5_seek (l : Launch) (D : va_G) (cI cJ : ClassId) (se pv wy kp : Nat) (bd : Int32) (av : Nat) (ke : Int32) (ow : Row) (nt aw ap an ae nn mm : Nat) (wo pr ne : Row) (d t : Nat) (bu gu mo : Int32) (x : Ss) (y : Ss) (h1 : 1 ≤ t) (h2 : t ≤ 8) (hlook : ∀ (v left : Int32) (x : Ss), ∀ (y : Ss), y = lookF (seekF (nI nn) wo pr ne ow ke bd d) (nI nn) wo ne ow ke bd t bu gu v left x → Met l yX5_look wsX5_look (rmL d) (mPre D cI cJ [.ref se, .ref nt, .int (nI t), .int bu, .int gu, .int v, .int left] [(se, .inr (5, [.ref pv, .int x.1, .int x.2.1, .int x.2.2.1, .int (zb (x.2.2.2.1 = true)), .int bd, .ref wy, .ref kp])), (wy, .inl (cI, 8, .inl x.2.2.2.2.1)), (kp, .inl (cI, 8, .inl x.2.2.2.2.2)), (pv, .inr (4, [.ref av, .int ke])), (av, .inl (cI, 8, .inl ow)), (nt, .inr (3, [.int (nI nn), .int (nI mm), .ref aw, .ref ap, .ref an, .ref ae])), (aw, .inl (cI, 10, .inl wo)), (ap, .inl (cI, 10, .inl pr)), (an, .inl (cI, 10, .inl ne))]) (mQv D (fun (_ : Unit) => True) (fun (_ : Unit) => [(se, .inr (5, [.ref pv, .int y.1, .int y.2.1, .int y.2.2.1, .int (zb (y.2.2.2.1 = true)), .int bd, .ref wy, .ref kp])), (wy, .inl (cI, 8, .inl y.2.2.2.2.1)), (kp, .inl (cI, 8, .inl y.2.2.2.2.2)), (pv, .inr (4, [.ref av, .int ke])), (av, .inl (cI, 8, .inl ow)), (nt, .inr (3, [.int (nI nn), .int (nI mm), .ref aw, .ref ap, .ref an, .ref ae])), (aw, .inl (cI, 10, .inl wo)), (ap, .inl (cI, 10, .inl pr)), (an, .inl (cI, 10, .inl ne))]) [(se, .inr (5, [.ref pv, .int x.1, .int x.2.1, .int x.2.2.1, .int (zb (x.2.2.2.1 = true)), .int bd, .ref wy, .ref kp])), (wy, .inl (cI, 8, .inl x.2.2.2.2.1)), (kp, .inl (cI, 8, .inl x.2.2.2.2.2)), (pv, .inr (4, [.ref av, .int ke])), (av, .inl (cI, 8, .inl ow)), (nt, .inr (3, [.int (nI nn), .int (nI mm), .ref aw, .ref ap, .ref an, .ref ae])), (aw, .inl (cI, 10, .inl wo)), (ap, .inl (cI, 10, .inl pr)), (an, .inl (cI, 10, .inl ne))]) 0 0 (mA [(se, .inr (5, [.ref pv, .int x.1, .int x.2.1, .int x.2.2.1, .int (zb (x.2.2.2.1 = true)), .int bd, .ref wy, .ref kp])), (wy, .inl (cI, 8, .inl x.2.2.2.2.1)), (kp, .inl (cI, 8, .inl x.2.2.2.2.2)), (pv, .inr (4, [.ref av, .int ke])), (av, .inl (cI, 8, .inl ow)), (nt, .inr (3, [.int (nI nn), .int (nI mm), .ref aw, .ref ap, .ref an, .ref ae])), (aw, .inl (cI, 10, .inl wo)), (ap, .inl (cI, 10, .inl pr)), (an, .inl (cI, 10, .inl ne))])) (hy : y = seekF (nI nn) wo pr ne ow ke bd (d + 1) t bu gu mo x) : Met l yX5_seek wsX5_seek (rmS (d + 1)) (mPre D cI cJ [.ref se, .ref nt, .int (nI t), .int bu, .int gu, .int mo] [(se, .inr (5, [.ref pv, .int x.1, .int x.2.1, .int x.2.2.1, .int (zb (x.2.2.2.1 = true)), .int bd, .ref wy, .ref kp])), (wy, .inl (cI, 8, .inl x.2.2.2.2.1)), (kp, .inl (cI, 8, .inl x.2.2.2.2.2)), (pv, .inr (4, [.ref av, .int ke])), (av, .inl (cI, 8, .inl ow)), (nt, .inr (3, [.int (nI nn), .int (nI mm), .ref aw, .ref ap, .ref an, .ref ae])), (aw, .inl (cI, 10, .inl wo)), (ap, .inl (cI, 10, .inl pr)), (an, .inl (cI, 10, .inl ne))]) (mQv D (fun (_ : Unit) => True) (fun (_ : Unit) => [(se, .inr (5, [.ref pv, .int y.1, .int y.2.1, .int y.2.2.1, .int (zb (y.2.2.2.1 = true)), .int bd, .ref wy, .ref kp])), (wy, .inl (cI, 8, .inl y.2.2.2.2.1)), (kp, .inl (cI, 8, .inl y.2.2.2.2.2)), (pv, .inr (4, [.ref av, .int ke])), (av, .inl (cI, 8, .inl ow)), (nt, .inr (3, [.int (nI nn), .int (nI mm), .ref aw, .ref ap, .ref an, .ref ae])), (aw, .inl (cI, 10, .inl wo)), (ap, .inl (cI, 10, .inl pr)), (an, .inl (cI, 10, .inl ne))]) [(se, .inr (5, [.ref pv, .int x.1, .int x.2.1, .int x.2.2.1, .int (zb (x.2.2.2.1 = true)), .int bd, .ref wy, .ref kp])), (wy, .inl (cI, 8, .inl x.2.2.2.2.1)), (kp, .inl (cI, 8, .inl x.2.2.2.2.2)), (pv, .inr (4, [.ref av, .int ke])), (av, .inl (cI, 8, .inl ow)), (nt, .inr (3, [.int (nI nn), .int (nI mm), .ref aw, .ref ap, .ref an, .ref ae])), (aw, .inl (cI, 10, .inl wo)), (ap, .inl (cI, 10, .inl pr)), (an, .inl (cI, 10, .inl ne))]) 0 0 (mA [(se, .inr (5, [.ref pv, .int x.1, .int x.2.1, .int x.2.2.1, .int (zb (x.2.2.2.1 = true)), .int bd, .ref wy, .ref kp])), (wy, .inl (cI, 8, .inl x.2.2.2.2.1)), (kp, .inl (cI, 8, .inl x.2.2.2.2.2)), (pv, .inr (4, [.ref av, .int ke])), (av, .inl (cI, 8, .inl ow)), (nt, .inr (3, [.int (nI nn), .int (nI mm), .ref aw, .ref ap, .ref an, .ref ae])), (aw, .inl (cI, 10, .inl wo)), (ap, .inl (cI, 10, .inl pr)), (an, .inl (cI, 10, .inl ne))]) := by
  refine startM (cc := cX5_seek) (maxL := 10) (ret := none) (by decide) rfl (Nat.le_of_ble_eq_true rfl) ?_
  intro p e s m args below meth c ls Q A hA hQ hx hb hr hlocks hml hown hts hK hN hP hD hl hin
  have hown : s.vm.findClass RX5 = some m.cls := hown
  have hi_5 : ∀ w ∈ wsX50, w ∈ wsX5_seek := by decide +kernel
  have hf_36 := hts (.fieldLink RX5 36 "FireNets$Search" "spent" "Z") (by decide +kernel)
  have hS : va_S A s.heap s.heap [] := va_S.rf
  have hl : lv_has ls 10 [(0, .ref se), (1, .ref nt), (2, .int (nI t)), (3, .int bu), (4, .int gu), (5, .int mo)] := hl
  have hP : va_P D vwCl [(se, .inr (5, [.ref pv, .int x.1, .int x.2.1, .int x.2.2.1, .int (zb (x.2.2.2.1 = true)), .int bd, .ref wy, .ref kp])), (wy, .inl (cI, 8, .inl x.2.2.2.2.1)), (kp, .inl (cI, 8, .inl x.2.2.2.2.2)), (pv, .inr (4, [.ref av, .int ke])), (av, .inl (cI, 8, .inl ow)), (nt, .inr (3, [.int (nI nn), .int (nI mm), .ref aw, .ref ap, .ref an, .ref ae])), (aw, .inl (cI, 10, .inl wo)), (ap, .inl (cI, 10, .inl pr)), (an, .inl (cI, 10, .inl ne))] s.heap := hP
  subst hy
  refine lv_aload_n hx hb dX5_seek_0 rfl (lv_at hl 1 rfl) ?_
  refine goRI hP hS (va_runV (As := []) (rest := []) ⟨hx, hb, hml, hown, hts⟩ (kX3_all l D cI cJ nt aw ap an ae nn mm) (cwV 0 hts gX5_seek_X3_all rfl rfl rfl kdX3_all ⟨by show _ + 1 ≤ 2 * (d + 1) + 8; first | (simp only [rmL]; omega) | exact Nat.le_trans (Nat.le_of_ble_eq_true rfl) (Nat.le_add_left 8 (2 * (d + 1))), by show _ ≤ 60 * (d + 1) + 260; first | (simp only [rmL]; omega) | exact Nat.le_trans (Nat.le_of_ble_eq_true rfl) (Nat.le_add_left 260 (60 * (d + 1)))⟩) (preRV hK hN hP 5 (ci := 3) rfl rfl rfl [5] rfl) rfl rfl hl.1 rfl (lv_room (Nat.le_of_ble_eq_true rfl)) dX5_seek_1 ⟨Nat.zero_le _, Nat.zero_le _⟩) (fun H locs hP hS => ?_)
  refine lv_iload_n hx hb dX5_seek_4 rfl (lv_at hl 3 rfl) ?_
  refine lv_iconst (v := (-1)) hx hb dX5_seek_5 (by decide) ?_
  refine lv_ixor hx hb dX5_seek_6 ?_
  refine lv_iand hx hb dX5_seek_7 ?_
  refine lv_iload hx hb dX5_seek_8 (lv_at hl 4 rfl) ?_
  refine lv_iconst (v := (-1)) hx hb dX5_seek_10 (by decide) ?_
  refine lv_ixor hx hb dX5_seek_11 ?_
  refine lv_iand hx hb dX5_seek_12 ?_
  refine lv_istore (lv' := [(6, .int (((allI (nI nn)) &&& (bu ^^^ (-1))) &&& (gu ^^^ (-1)))), (0, .ref se), (1, .ref nt), (2, .int (nI t)), (3, .int bu), (4, .int gu), (5, .int mo)]) hx hb dX5_seek_13 hl (by decide) rfl (fun ls hl => ?_)
  refine lv_iconst (v := 0) hx hb dX5_seek_15 (by decide) ?_
  refine lv_istore (lv' := [(7, .int 0), (6, .int (((allI (nI nn)) &&& (bu ^^^ (-1))) &&& (gu ^^^ (-1)))), (0, .ref se), (1, .ref nt), (2, .int (nI t)), (3, .int bu), (4, .int gu), (5, .int mo)]) hx hb dX5_seek_16 hl (by decide) rfl (fun ls hl => ?_)
  refine lv_iconst (v := 0) hx hb dX5_seek_18 (by decide) ?_
  refine lv_istore (lv' := [(8, .int 0), (7, .int 0), (6, .int (((allI (nI nn)) &&& (bu ^^^ (-1))) &&& (gu ^^^ (-1)))), (0, .ref se), (1, .ref nt), (2, .int (nI t)), (3, .int bu), (4, .int gu), (5, .int mo)]) hx hb dX5_seek_19 hl (by decide) rfl (fun ls hl => ?_)
  have lp : ∀ (fu : Nat) (k : Nat) (v : Int32) (q : Ss), (k ≤ 1024) → (seekL (fun set left x => lookF (seekF (nI nn) wo pr ne ow ke bd d) (nI nn) wo ne ow ke bd t bu gu set left x) pr (freeI (nI nn) bu gu) mo (1024 - k) v q = seekL (fun set left x => lookF (seekF (nI nn) wo pr ne ow ke bd d) (nI nn) wo ne ow ke bd t bu gu set left x) pr (freeI (nI nn) bu gu) mo 1024 0 x) → 1024 - k < fu → ∀ (ls : Array Slot) (H : Heap) (locs : List Loc), lv_has ls 10 [(0, .ref se), (1, .ref nt), (2, .int (nI t)), (3, .int bu), (4, .int gu), (5, .int mo), (6, .int (freeI (nI nn) bu gu)), (7, .int v), (8, .int (nI k))] → va_P D vwCl [(se, .inr (5, [.ref pv, .int q.1, .int q.2.1, .int q.2.2.1, .int (zb (q.2.2.2.1 = true)), .int bd, .ref wy, .ref kp])), (wy, .inl (cI, 8, .inl q.2.2.2.2.1)), (kp, .inl (cI, 8, .inl q.2.2.2.2.2)), (pv, .inr (4, [.ref av, .int ke])), (av, .inl (cI, 8, .inl ow)), (nt, .inr (3, [.int (nI nn), .int (nI mm), .ref aw, .ref ap, .ref an, .ref ae])), (aw, .inl (cI, 10, .inl wo)), (ap, .inl (cI, 10, .inl pr)), (an, .inl (cI, 10, .inl ne))] H → va_D A [(se, .inr (5, [.ref pv, .int q.1, .int q.2.1, .int q.2.2.1, .int (zb (q.2.2.2.1 = true)), .int bd, .ref wy, .ref kp])), (wy, .inl (cI, 8, .inl q.2.2.2.2.1)), (kp, .inl (cI, 8, .inl q.2.2.2.2.2)), (pv, .inr (4, [.ref av, .int ke])), (av, .inl (cI, 8, .inl ow)), (nt, .inr (3, [.int (nI nn), .int (nI mm), .ref aw, .ref ap, .ref an, .ref ae])), (aw, .inl (cI, 10, .inl wo)), (ap, .inl (cI, 10, .inl pr)), (an, .inl (cI, 10, .inl ne))] → va_S A s.heap H locs → W p l e (rmS (d + 1)) s m args below meth c H locs 0 0 Q (F0 m 21 ls []) := by
    intro fu
    induction fu with
    | zero => intro k v q hk hq hf; exact absurd hf (Nat.not_lt_zero _)
    | succ fu ih_lp =>
      intro k v q hk hq hf ls H locs hl hP hD hS
      refine lv_iload hx hb dX5_seek_21 (lv_at hl 8 rfl) ?_
      refine lv_sipush (v := 1023) hx hb dX5_seek_23 (by decide) ?_
      refine r_icmp_gt (tgt := 99) hx hb k 1023 dX5_seek_26 (by decide) rfl rfl (by omega) (by omega) (fun c_26 => ?_) (fun c_26 => ?_)
      · exact endMV () hx hb hr hlocks hA hQ hS hP dX5_seek_99 (by rw [seekF, ← hq, show 1024 - k = 0 by omega, seekL] <;> rfl) trivial
      · refine lv_aload_n hx hb dX5_seek_29 rfl (lv_at hl 0 rfl) ?_
        refine va_get (D := D) (ci := 5) (v := .int (zb (q.2.2.2.1 = true))) (C := RX5) (T := TX5) (N := 8) hx hb hts hi_5 hown hK hP 0 rfl rfl 4 (by decide) hf_36 (fun _ h9 => h9) rfl dX5_seek_30 ?_
        refine r_zne (tgt := 99) hx hb dX5_seek_33 (by decide) (fun c_33 => ?_) (fun c_33 => ?_)
        · exact endMV () hx hb hr hlocks hA hQ hS hP dX5_seek_99 (by rw [seekF, ← hq, show 1024 - k = (1023 - k) + 1 by omega, seekL, if_pos c_33] <;> rfl) trivial
        · refine lv_iload hx hb dX5_seek_36 (lv_at hl 5 rfl) ?_
          refine lv_aload_n hx hb dX5_seek_38 rfl (lv_at hl 1 rfl) ?_
          refine lv_iload hx hb dX5_seek_39 (lv_at hl 7 rfl) ?_
          refine goRI hP hS (va_runV (As := [.int v]) (rest := [.int mo]) ⟨hx, hb, hml, hown, hts⟩ (kX3_priceOf l D cI cJ nt aw ap an ae nn mm pr v) (cwV 1 hts gX5_seek_X3_priceOf rfl rfl rfl kdX3_priceOf ⟨by show _ + 1 ≤ 2 * (d + 1) + 8; first | (simp only [rmL]; omega) | exact Nat.le_trans (Nat.le_of_ble_eq_true rfl) (Nat.le_add_left 8 (2 * (d + 1))), by show _ ≤ 60 * (d + 1) + 260; first | (simp only [rmL]; omega) | exact Nat.le_trans (Nat.le_of_ble_eq_true rfl) (Nat.le_add_left 260 (60 * (d + 1)))⟩) (preRV hK hN hP 5 (ci := 3) rfl rfl rfl [5, 7] rfl) rfl rfl hl.1 rfl (lv_room (Nat.le_of_ble_eq_true rfl)) dX5_seek_41 ⟨Nat.zero_le _, Nat.zero_le _⟩) (fun H locs hP hS => ?_)
          refine lv_isub hx hb dX5_seek_44 ?_
          refine lv_istore (lv' := [(9, .int (mo - (sumI pr v 10))), (0, .ref se), (1, .ref nt), (2, .int (nI t)), (3, .int bu), (4, .int gu), (5, .int mo), (6, .int (freeI (nI nn) bu gu)), (7, .int v), (8, .int (nI k))]) hx hb dX5_seek_45 hl (by decide) rfl (fun ls hl => ?_)
          refine lv_iload hx hb dX5_seek_47 (lv_at hl 0 rfl) ?_
          refine lv_if_lt (tgt := 65) hx hb dX5_seek_49 (by decide) (fun c_49 => ?_) (fun c_49 => ?_)
          · refine lv_iload hx hb dX5_seek_65 (lv_at hl 7 rfl) ?_
            refine lv_iload hx hb dX5_seek_67 (lv_at hl 0 rfl) ?_
            refine lv_if_lt (tgt := 77) hx hb dX5_seek_69 (by decide) (fun c_69 => ?_) (fun c_69 => ?_)
            · refine lv_iload hx hb dX5_seek_77 (lv_at hl 8 rfl) ?_
              refine goRI hP hS (va_runS (As := [.int v]) (rest := [.int (freeI (nI nn) bu gu)]) ⟨hx, hb, hml, hown, hts⟩ (kX5_lastAbove l D cI cJ v) (va_cwS 1 hts gX5_seek_X5_lastAbove rfl rfl rfl kdX5_lastAbove.2 ⟨by show _ + 1 ≤ 2 * (d + 1) + 8; first | (simp only [rmL]; omega) | exact Nat.le_trans (Nat.le_of_ble_eq_true rfl) (Nat.le_add_left 8 (2 * (d + 1))), by show _ ≤ 60 * (d + 1) + 260; first | (simp only [rmL]; omega) | exact Nat.le_trans (Nat.le_of_ble_eq_true rfl) (Nat.le_add_left 260 (60 * (d + 1)))⟩) (preR hK hN hP [] rfl) rfl rfl hl.1 rfl (lv_room (Nat.le_of_ble_eq_true rfl)) dX5_seek_79 ⟨Nat.zero_le _, Nat.zero_le _⟩) (fun H locs hP hS => ?_)
              refine goRI hP hS (va_runS (As := [.int (freeI (nI nn) bu gu), .int (lastAb v)]) (rest := []) ⟨hx, hb, hml, hown, hts⟩ (kX5_nextWithin l D cI cJ (freeI (nI nn) bu gu) (lastAb v)) (va_cwS 2 hts gX5_seek_X5_nextWithin rfl rfl rfl kdX5_nextWithin.2 ⟨by show _ + 1 ≤ 2 * (d + 1) + 8; first | (simp only [rmL]; omega) | exact Nat.le_trans (Nat.le_of_ble_eq_true rfl) (Nat.le_add_left 8 (2 * (d + 1))), by show _ ≤ 60 * (d + 1) + 260; first | (simp only [rmL]; omega) | exact Nat.le_trans (Nat.le_of_ble_eq_true rfl) (Nat.le_add_left 260 (60 * (d + 1)))⟩) (preR hK hN hP [] rfl) rfl rfl hl.1 rfl (lv_room (Nat.le_of_ble_eq_true rfl)) dX5_seek_82 ⟨Nat.zero_le _, Nat.zero_le _⟩) (fun H locs hP hS => ?_)
              refine lv_istore (lv' := [(7, .int (nextW (freeI (nI nn) bu gu) (lastAb v))), (9, .int (mo - (sumI pr v 10))), (0, .ref se), (1, .ref nt), (2, .int (nI t)), (3, .int bu), (4, .int gu), (5, .int mo), (6, .int (freeI (nI nn) bu gu)), (8, .int (nI k))]) hx hb dX5_seek_85 hl (by decide) rfl (fun ls hl => ?_)
              refine lv_iload hx hb dX5_seek_87 (lv_at hl 0 rfl) ?_
              refine lv_if_ne (tgt := 93) hx hb dX5_seek_89 (by decide) (fun c_89 => ?_) (fun c_89 => ?_)
              · refine r_iinc (lv' := [(8, .int (nI (k + 1))), (7, .int (nextW (freeI (nI nn) bu gu) (lastAb v))), (9, .int (mo - (sumI pr v 10))), (0, .ref se), (1, .ref nt), (2, .int (nI t)), (3, .int bu), (4, .int gu), (5, .int mo), (6, .int (freeI (nI nn) bu gu))]) hx hb 9 k dX5_seek_93 hl rfl (by decide) rfl (fun ls hl => ?_)
                refine lv_goto (tgt := 21) hx hb dX5_seek_96 (by decide) ?_
                exact ih_lp (k + 1) (nextW (freeI (nI nn) bu gu) (lastAb v)) q (by omega) (by rw [← hq, show 1024 - k = (1024 - (k + 1)) + 1 by omega, seekL, if_neg c_33, if_pos c_49, if_neg c_89]) (by omega) ls _ _ (lv_sub hl [3, 4, 5, 6, 7, 8, 9, 1, 0] rfl) hP hD hS
              · exact endMV () hx hb hr hlocks hA hQ hS hP dX5_seek_92 (by rw [seekF, ← hq, show 1024 - k = (1023 - k) + 1 by omega, seekL, if_neg c_33, if_pos c_49, if_pos c_89] <;> rfl) trivial
            · exact absurd c_49 c_69
          · refine lv_aload_n hx hb dX5_seek_52 rfl (lv_at hl 1 rfl) ?_
            refine lv_aload_n hx hb dX5_seek_53 rfl (lv_at hl 2 rfl) ?_
            refine lv_iload_n hx hb dX5_seek_54 rfl (lv_at hl 3 rfl) ?_
            refine lv_iload_n hx hb dX5_seek_55 rfl (lv_at hl 4 rfl) ?_
            refine lv_iload hx hb dX5_seek_56 (lv_at hl 5 rfl) ?_
            refine lv_iload hx hb dX5_seek_58 (lv_at hl 8 rfl) ?_
            refine lv_iload hx hb dX5_seek_60 (lv_at hl 0 rfl) ?_
            obtain ⟨y_62, hy_62⟩ : ∃ z : Ss, z = lookF (seekF (nI nn) wo pr ne ow ke bd d) (nI nn) wo ne ow ke bd t bu gu v (mo - (sumI pr v 10)) q := ⟨_, rfl⟩
            refine goMV hP hD hS (va_runV (As := [.ref nt, .int (nI t), .int bu, .int gu, .int v, .int (mo - (sumI pr v 10))]) (rest := []) ⟨hx, hb, hml, hown, hts⟩ (hlook v (mo - (sumI pr v 10)) q y_62 hy_62) (cwV 6 hts gX5_seek_X5_look rfl rfl rfl kdX5_look ⟨by show _ + 1 ≤ 2 * (d + 1) + 8; first | (simp only [rmL]; omega) | exact Nat.le_trans (Nat.le_of_ble_eq_true rfl) (Nat.le_add_left 8 (2 * (d + 1))), by show _ ≤ 60 * (d + 1) + 260; first | (simp only [rmL]; omega) | exact Nat.le_trans (Nat.le_of_ble_eq_true rfl) (Nat.le_add_left 260 (60 * (d + 1)))⟩) (preMV hK hN hP hD 0 (ci := 5) rfl rfl rfl [0, 1, 2, 3, 4, 5, 6, 7, 8] rfl (by decide)) rfl rfl hl.1 rfl (lv_room (Nat.le_of_ble_eq_true rfl)) dX5_seek_62 ⟨Nat.zero_le _, Nat.zero_le _⟩) [0, 1, 2, 3, 4, 5, 6, 7, 8] rfl (by decide) (fun _ => (show ([se, wy, kp, pv, av, nt, aw, ap, an] : List Nat) = [se, wy, kp, pv, av, nt, aw, ap, an] from rfl)) (fun _ H locs hp_62 hP hD hS => ?_)
            have hP : va_P D vwCl [(se, .inr (5, [.ref pv, .int y_62.1, .int y_62.2.1, .int y_62.2.2.1, .int (zb (y_62.2.2.2.1 = true)), .int bd, .ref wy, .ref kp])), (wy, .inl (cI, 8, .inl y_62.2.2.2.2.1)), (kp, .inl (cI, 8, .inl y_62.2.2.2.2.2)), (pv, .inr (4, [.ref av, .int ke])), (av, .inl (cI, 8, .inl ow)), (nt, .inr (3, [.int (nI nn), .int (nI mm), .ref aw, .ref ap, .ref an, .ref ae])), (aw, .inl (cI, 10, .inl wo)), (ap, .inl (cI, 10, .inl pr)), (an, .inl (cI, 10, .inl ne))] H := hP
            have hD : va_D A [(se, .inr (5, [.ref pv, .int y_62.1, .int y_62.2.1, .int y_62.2.2.1, .int (zb (y_62.2.2.2.1 = true)), .int bd, .ref wy, .ref kp])), (wy, .inl (cI, 8, .inl y_62.2.2.2.2.1)), (kp, .inl (cI, 8, .inl y_62.2.2.2.2.2)), (pv, .inr (4, [.ref av, .int ke])), (av, .inl (cI, 8, .inl ow)), (nt, .inr (3, [.int (nI nn), .int (nI mm), .ref aw, .ref ap, .ref an, .ref ae])), (aw, .inl (cI, 10, .inl wo)), (ap, .inl (cI, 10, .inl pr)), (an, .inl (cI, 10, .inl ne))] := hD
            refine lv_iload hx hb dX5_seek_65 (lv_at hl 7 rfl) ?_
            refine lv_iload hx hb dX5_seek_67 (lv_at hl 0 rfl) ?_
            refine lv_if_lt (tgt := 77) hx hb dX5_seek_69 (by decide) (fun c_69 => ?_) (fun c_69 => ?_)
            · exact absurd c_69 c_49
            · refine lv_iload hx hb dX5_seek_72 (lv_at hl 8 rfl) ?_
              refine lv_goto (tgt := 82) hx hb dX5_seek_74 (by decide) ?_
              refine goRI hP hS (va_runS (As := [.int (freeI (nI nn) bu gu), .int v]) (rest := []) ⟨hx, hb, hml, hown, hts⟩ (kX5_nextWithin l D cI cJ (freeI (nI nn) bu gu) v) (va_cwS 2 hts gX5_seek_X5_nextWithin rfl rfl rfl kdX5_nextWithin.2 ⟨by show _ + 1 ≤ 2 * (d + 1) + 8; first | (simp only [rmL]; omega) | exact Nat.le_trans (Nat.le_of_ble_eq_true rfl) (Nat.le_add_left 8 (2 * (d + 1))), by show _ ≤ 60 * (d + 1) + 260; first | (simp only [rmL]; omega) | exact Nat.le_trans (Nat.le_of_ble_eq_true rfl) (Nat.le_add_left 260 (60 * (d + 1)))⟩) (preR hK hN hP [] rfl) rfl rfl hl.1 rfl (lv_room (Nat.le_of_ble_eq_true rfl)) dX5_seek_82 ⟨Nat.zero_le _, Nat.zero_le _⟩) (fun H locs hP hS => ?_)
              refine lv_istore (lv' := [(7, .int (nextW (freeI (nI nn) bu gu) v)), (9, .int (mo - (sumI pr v 10))), (0, .ref se), (1, .ref nt), (2, .int (nI t)), (3, .int bu), (4, .int gu), (5, .int mo), (6, .int (freeI (nI nn) bu gu)), (8, .int (nI k))]) hx hb dX5_seek_85 hl (by decide) rfl (fun ls hl => ?_)
              refine lv_iload hx hb dX5_seek_87 (lv_at hl 0 rfl) ?_
              refine lv_if_ne (tgt := 93) hx hb dX5_seek_89 (by decide) (fun c_89 => ?_) (fun c_89 => ?_)
              · refine r_iinc (lv' := [(8, .int (nI (k + 1))), (7, .int (nextW (freeI (nI nn) bu gu) v)), (9, .int (mo - (sumI pr v 10))), (0, .ref se), (1, .ref nt), (2, .int (nI t)), (3, .int bu), (4, .int gu), (5, .int mo), (6, .int (freeI (nI nn) bu gu))]) hx hb 9 k dX5_seek_93 hl rfl (by decide) rfl (fun ls hl => ?_)
                refine lv_goto (tgt := 21) hx hb dX5_seek_96 (by decide) ?_
                exact ih_lp (k + 1) (nextW (freeI (nI nn) bu gu) v) y_62 (by omega) (by rw [← hq, show 1024 - k = (1024 - (k + 1)) + 1 by omega, seekL, if_neg c_33, if_neg c_49, if_neg c_89, hy_62]) (by omega) ls _ _ (lv_sub hl [3, 4, 5, 6, 7, 8, 9, 1, 0] rfl) hP hD hS
              · exact endMV () hx hb hr hlocks hA hQ hS hP dX5_seek_92 (by rw [seekF, ← hq, show 1024 - k = (1023 - k) + 1 by omega, seekL, if_neg c_33, if_neg c_49, if_pos c_89, hy_62] <;> rfl) trivial
  exact lp _ 0 0 x (by omega) rfl (Nat.lt_succ_self _) ls _ _ (lv_sub hl [3, 4, 5, 6, 7, 8, 2, 1, 0] rfl) hP hD hS
/-- seek at every tick -/
theorem kX5_seekAll (l : Launch) (D : va_G) (cI cJ : ClassId) (se pv wy kp : Nat) (bd : Int32) (av : Nat) (ke : Int32) (ow : Row) (nt aw ap an ae nn mm : Nat) (wo pr ne : Row) : ∀ (d t : Nat), 1 ≤ t → t + d = 8 → ∀ (bu gu mo : Int32) (x : Ss), ∀ (y : Ss), y = seekF (nI nn) wo pr ne ow ke bd (d + 1) t bu gu mo x → Met l yX5_seek wsX5_seek (rmS (d + 1)) (mPre D cI cJ [.ref se, .ref nt, .int (nI t), .int bu, .int gu, .int mo] [(se, .inr (5, [.ref pv, .int x.1, .int x.2.1, .int x.2.2.1, .int (zb (x.2.2.2.1 = true)), .int bd, .ref wy, .ref kp])), (wy, .inl (cI, 8, .inl x.2.2.2.2.1)), (kp, .inl (cI, 8, .inl x.2.2.2.2.2)), (pv, .inr (4, [.ref av, .int ke])), (av, .inl (cI, 8, .inl ow)), (nt, .inr (3, [.int (nI nn), .int (nI mm), .ref aw, .ref ap, .ref an, .ref ae])), (aw, .inl (cI, 10, .inl wo)), (ap, .inl (cI, 10, .inl pr)), (an, .inl (cI, 10, .inl ne))]) (mQv D (fun (_ : Unit) => True) (fun (_ : Unit) => [(se, .inr (5, [.ref pv, .int y.1, .int y.2.1, .int y.2.2.1, .int (zb (y.2.2.2.1 = true)), .int bd, .ref wy, .ref kp])), (wy, .inl (cI, 8, .inl y.2.2.2.2.1)), (kp, .inl (cI, 8, .inl y.2.2.2.2.2)), (pv, .inr (4, [.ref av, .int ke])), (av, .inl (cI, 8, .inl ow)), (nt, .inr (3, [.int (nI nn), .int (nI mm), .ref aw, .ref ap, .ref an, .ref ae])), (aw, .inl (cI, 10, .inl wo)), (ap, .inl (cI, 10, .inl pr)), (an, .inl (cI, 10, .inl ne))]) [(se, .inr (5, [.ref pv, .int x.1, .int x.2.1, .int x.2.2.1, .int (zb (x.2.2.2.1 = true)), .int bd, .ref wy, .ref kp])), (wy, .inl (cI, 8, .inl x.2.2.2.2.1)), (kp, .inl (cI, 8, .inl x.2.2.2.2.2)), (pv, .inr (4, [.ref av, .int ke])), (av, .inl (cI, 8, .inl ow)), (nt, .inr (3, [.int (nI nn), .int (nI mm), .ref aw, .ref ap, .ref an, .ref ae])), (aw, .inl (cI, 10, .inl wo)), (ap, .inl (cI, 10, .inl pr)), (an, .inl (cI, 10, .inl ne))]) 0 0 (mA [(se, .inr (5, [.ref pv, .int x.1, .int x.2.1, .int x.2.2.1, .int (zb (x.2.2.2.1 = true)), .int bd, .ref wy, .ref kp])), (wy, .inl (cI, 8, .inl x.2.2.2.2.1)), (kp, .inl (cI, 8, .inl x.2.2.2.2.2)), (pv, .inr (4, [.ref av, .int ke])), (av, .inl (cI, 8, .inl ow)), (nt, .inr (3, [.int (nI nn), .int (nI mm), .ref aw, .ref ap, .ref an, .ref ae])), (aw, .inl (cI, 10, .inl wo)), (ap, .inl (cI, 10, .inl pr)), (an, .inl (cI, 10, .inl ne))]) := by
  intro d
  induction d with
  | zero =>
    intro t h1 h2 bu gu mo x y hy
    exact kX5_seek l D cI cJ se pv wy kp bd av ke ow nt aw ap an ae nn mm wo pr ne 0 t bu gu mo x y h1 (by omega) (fun v left x y hy => kX5_look l D cI cJ se pv wy kp bd av ke ow nt aw ap an ae nn mm wo pr ne 0 t bu gu v left x y h1 (by omega) (fun h => absurd h (by omega)) hy) hy
  | succ d ih =>
    intro t h1 h2 bu gu mo x y hy
    exact kX5_seek l D cI cJ se pv wy kp bd av ke ow nt aw ap an ae nn mm wo pr ne (d + 1) t bu gu mo x y h1 (by omega) (fun v left x y hy => kX5_look l D cI cJ se pv wy kp bd av ke ow nt aw ap an ae nn mm wo pr ne (d + 1) t bu gu v left x y h1 (by omega) (fun h bu gu mo x => ih (t + 1) (by omega) (by omega) bu gu mo x) hy) hy
def rmX5_run : Room := { frames := 25, cells := 0, slots := 0, locals := 769 }
theorem kdX5_run : yX5_run.cls = RX5 ∧ yX5_run.cls ≠ "java/lang/invoke/MethodHandle" ∧ yX5_run.cls ≠ "java/lang/invoke/VarHandle" ∧ (parseMethodDescriptor yX5_run.desc).map (fun d => d.parameters.length) = some 3 := ⟨rfl, by decide +kernel, by decide +kernel, by decide +kernel⟩
set_option maxRecDepth 100000 in
set_option maxHeartbeats 1000000 in
theorem kX5_run (l : Launch) (D : va_G) (cI cJ : ClassId) (se pv wy kp : Nat) (bd : Int32) (av : Nat) (ke : Int32) (ow : Row) (nt aw ap an ae nn mm : Nat) (wo pr ne : Row) (d : Nat) (bv fire : Int32) (x : Ss) (y : Ss) (hd : 1 + d = 8) (hy : y = seekF (nI nn) wo pr ne ow ke bv (d + 1) 1 fire 0 (moneyI ow ke 1 0) (0, -1, x.2.2.1, false, x.2.2.2.2.1, x.2.2.2.2.2)) : Met l yX5_run wsX5_run rmX5_run (mPre D cI cJ [.ref se, .ref nt, .int bv, .int fire] [(se, .inr (5, [.ref pv, .int x.1, .int x.2.1, .int x.2.2.1, .int (zb (x.2.2.2.1 = true)), .int bd, .ref wy, .ref kp])), (wy, .inl (cI, 8, .inl x.2.2.2.2.1)), (kp, .inl (cI, 8, .inl x.2.2.2.2.2)), (pv, .inr (4, [.ref av, .int ke])), (av, .inl (cI, 8, .inl ow)), (nt, .inr (3, [.int (nI nn), .int (nI mm), .ref aw, .ref ap, .ref an, .ref ae])), (aw, .inl (cI, 10, .inl wo)), (ap, .inl (cI, 10, .inl pr)), (an, .inl (cI, 10, .inl ne))]) (mQv D (fun (_ : Unit) => True) (fun (_ : Unit) => [(se, .inr (5, [.ref pv, .int y.1, .int y.2.1, .int y.2.2.1, .int (zb (y.2.2.2.1 = true)), .int bv, .ref wy, .ref kp])), (wy, .inl (cI, 8, .inl y.2.2.2.2.1)), (kp, .inl (cI, 8, .inl y.2.2.2.2.2)), (pv, .inr (4, [.ref av, .int ke])), (av, .inl (cI, 8, .inl ow)), (nt, .inr (3, [.int (nI nn), .int (nI mm), .ref aw, .ref ap, .ref an, .ref ae])), (aw, .inl (cI, 10, .inl wo)), (ap, .inl (cI, 10, .inl pr)), (an, .inl (cI, 10, .inl ne))]) [(se, .inr (5, [.ref pv, .int x.1, .int x.2.1, .int x.2.2.1, .int (zb (x.2.2.2.1 = true)), .int bd, .ref wy, .ref kp])), (wy, .inl (cI, 8, .inl x.2.2.2.2.1)), (kp, .inl (cI, 8, .inl x.2.2.2.2.2)), (pv, .inr (4, [.ref av, .int ke])), (av, .inl (cI, 8, .inl ow)), (nt, .inr (3, [.int (nI nn), .int (nI mm), .ref aw, .ref ap, .ref an, .ref ae])), (aw, .inl (cI, 10, .inl wo)), (ap, .inl (cI, 10, .inl pr)), (an, .inl (cI, 10, .inl ne))]) 0 0 (mA [(se, .inr (5, [.ref pv, .int x.1, .int x.2.1, .int x.2.2.1, .int (zb (x.2.2.2.1 = true)), .int bd, .ref wy, .ref kp])), (wy, .inl (cI, 8, .inl x.2.2.2.2.1)), (kp, .inl (cI, 8, .inl x.2.2.2.2.2)), (pv, .inr (4, [.ref av, .int ke])), (av, .inl (cI, 8, .inl ow)), (nt, .inr (3, [.int (nI nn), .int (nI mm), .ref aw, .ref ap, .ref an, .ref ae])), (aw, .inl (cI, 10, .inl wo)), (ap, .inl (cI, 10, .inl pr)), (an, .inl (cI, 10, .inl ne))]) := by
  refine startM (cc := cX5_run) (maxL := 4) (ret := none) (by decide) rfl (Nat.le_of_ble_eq_true rfl) ?_
  intro p e s m args below meth c ls Q A hA hQ hx hb hr hlocks hml hown hts hK hN hP hD hl hin
  have hown : s.vm.findClass RX5 = some m.cls := hown
  have hi_5 : ∀ w ∈ wsX50, w ∈ wsX5_run := by decide +kernel
  have hf_12 := hts (.fieldLink RX5 12 "FireNets$Search" "purses" "LFireNets$Purses;") (by decide +kernel)
  have hf_29 := hts (.fieldLink RX5 29 "FireNets$Search" "bound" "I") (by decide +kernel)
  have hf_33 := hts (.fieldLink RX5 33 "FireNets$Search" "looks" "I") (by decide +kernel)
  have hf_36 := hts (.fieldLink RX5 36 "FireNets$Search" "spent" "Z") (by decide +kernel)
  have hf_40 := hts (.fieldLink RX5 40 "FireNets$Search" "saved" "I") (by decide +kernel)
  have hS : va_S A s.heap s.heap [] := va_S.rf
  have hl : lv_has ls 4 [(0, .ref se), (1, .ref nt), (2, .int bv), (3, .int fire)] := hl
  have hP : va_P D vwCl [(se, .inr (5, [.ref pv, .int x.1, .int x.2.1, .int x.2.2.1, .int (zb (x.2.2.2.1 = true)), .int bd, .ref wy, .ref kp])), (wy, .inl (cI, 8, .inl x.2.2.2.2.1)), (kp, .inl (cI, 8, .inl x.2.2.2.2.2)), (pv, .inr (4, [.ref av, .int ke])), (av, .inl (cI, 8, .inl ow)), (nt, .inr (3, [.int (nI nn), .int (nI mm), .ref aw, .ref ap, .ref an, .ref ae])), (aw, .inl (cI, 10, .inl wo)), (ap, .inl (cI, 10, .inl pr)), (an, .inl (cI, 10, .inl ne))] s.heap := hP
  refine lv_aload_n hx hb dX5_run_0 rfl (lv_at hl 0 rfl) ?_
  refine lv_iload_n hx hb dX5_run_1 rfl (lv_at hl 2 rfl) ?_
  refine va_put (D := D) (ci := 5) (v := .int bv) (ty := .int) (C := RX5) (T := TX5) (N := 8) hx hb hts hi_5 tyX5 tyX5_ok nmX5 hown hK hP hD hS 0 rfl rfl 5 (by decide) hf_29 (fun _ h9 => h9) rfl (by decide +kernel) rfl rfl (Nat.le_of_ble_eq_true rfl) dX5_run_2 (fun H locs hP hD hS => ?_)
  have hP : va_P D vwCl [(se, .inr (5, [.ref pv, .int x.1, .int x.2.1, .int x.2.2.1, .int (zb (x.2.2.2.1 = true)), .int bv, .ref wy, .ref kp])), (wy, .inl (cI, 8, .inl x.2.2.2.2.1)), (kp, .inl (cI, 8, .inl x.2.2.2.2.2)), (pv, .inr (4, [.ref av, .int ke])), (av, .inl (cI, 8, .inl ow)), (nt, .inr (3, [.int (nI nn), .int (nI mm), .ref aw, .ref ap, .ref an, .ref ae])), (aw, .inl (cI, 10, .inl wo)), (ap, .inl (cI, 10, .inl pr)), (an, .inl (cI, 10, .inl ne))] H := hP
  have hD : va_D A [(se, .inr (5, [.ref pv, .int x.1, .int x.2.1, .int x.2.2.1, .int (zb (x.2.2.2.1 = true)), .int bv, .ref wy, .ref kp])), (wy, .inl (cI, 8, .inl x.2.2.2.2.1)), (kp, .inl (cI, 8, .inl x.2.2.2.2.2)), (pv, .inr (4, [.ref av, .int ke])), (av, .inl (cI, 8, .inl ow)), (nt, .inr (3, [.int (nI nn), .int (nI mm), .ref aw, .ref ap, .ref an, .ref ae])), (aw, .inl (cI, 10, .inl wo)), (ap, .inl (cI, 10, .inl pr)), (an, .inl (cI, 10, .inl ne))] := hD
  refine lv_aload_n hx hb dX5_run_5 rfl (lv_at hl 0 rfl) ?_
  refine lv_iconst (v := 0) hx hb dX5_run_6 (by decide) ?_
  refine va_put (D := D) (ci := 5) (v := .int 0) (ty := .int) (C := RX5) (T := TX5) (N := 8) hx hb hts hi_5 tyX5 tyX5_ok nmX5 hown hK hP hD hS 0 rfl rfl 1 (by decide) hf_33 (fun _ h9 => h9) rfl (by decide +kernel) rfl rfl (Nat.le_of_ble_eq_true rfl) dX5_run_7 (fun H locs hP hD hS => ?_)
  have hP : va_P D vwCl [(se, .inr (5, [.ref pv, .int 0, .int x.2.1, .int x.2.2.1, .int (zb (x.2.2.2.1 = true)), .int bv, .ref wy, .ref kp])), (wy, .inl (cI, 8, .inl x.2.2.2.2.1)), (kp, .inl (cI, 8, .inl x.2.2.2.2.2)), (pv, .inr (4, [.ref av, .int ke])), (av, .inl (cI, 8, .inl ow)), (nt, .inr (3, [.int (nI nn), .int (nI mm), .ref aw, .ref ap, .ref an, .ref ae])), (aw, .inl (cI, 10, .inl wo)), (ap, .inl (cI, 10, .inl pr)), (an, .inl (cI, 10, .inl ne))] H := hP
  have hD : va_D A [(se, .inr (5, [.ref pv, .int 0, .int x.2.1, .int x.2.2.1, .int (zb (x.2.2.2.1 = true)), .int bv, .ref wy, .ref kp])), (wy, .inl (cI, 8, .inl x.2.2.2.2.1)), (kp, .inl (cI, 8, .inl x.2.2.2.2.2)), (pv, .inr (4, [.ref av, .int ke])), (av, .inl (cI, 8, .inl ow)), (nt, .inr (3, [.int (nI nn), .int (nI mm), .ref aw, .ref ap, .ref an, .ref ae])), (aw, .inl (cI, 10, .inl wo)), (ap, .inl (cI, 10, .inl pr)), (an, .inl (cI, 10, .inl ne))] := hD
  refine lv_aload_n hx hb dX5_run_10 rfl (lv_at hl 0 rfl) ?_
  refine lv_iconst (v := 0) hx hb dX5_run_11 (by decide) ?_
  refine va_put (D := D) (ci := 5) (v := .int 0) (ty := .boolean) (C := RX5) (T := TX5) (N := 8) hx hb hts hi_5 tyX5 tyX5_ok nmX5 hown hK hP hD hS 0 rfl rfl 4 (by decide) hf_36 (fun _ h9 => h9) rfl (by decide +kernel) rfl rfl (Nat.le_of_ble_eq_true rfl) dX5_run_12 (fun H locs hP hD hS => ?_)
  have hP : va_P D vwCl [(se, .inr (5, [.ref pv, .int 0, .int x.2.1, .int x.2.2.1, .int 0, .int bv, .ref wy, .ref kp])), (wy, .inl (cI, 8, .inl x.2.2.2.2.1)), (kp, .inl (cI, 8, .inl x.2.2.2.2.2)), (pv, .inr (4, [.ref av, .int ke])), (av, .inl (cI, 8, .inl ow)), (nt, .inr (3, [.int (nI nn), .int (nI mm), .ref aw, .ref ap, .ref an, .ref ae])), (aw, .inl (cI, 10, .inl wo)), (ap, .inl (cI, 10, .inl pr)), (an, .inl (cI, 10, .inl ne))] H := hP
  have hD : va_D A [(se, .inr (5, [.ref pv, .int 0, .int x.2.1, .int x.2.2.1, .int 0, .int bv, .ref wy, .ref kp])), (wy, .inl (cI, 8, .inl x.2.2.2.2.1)), (kp, .inl (cI, 8, .inl x.2.2.2.2.2)), (pv, .inr (4, [.ref av, .int ke])), (av, .inl (cI, 8, .inl ow)), (nt, .inr (3, [.int (nI nn), .int (nI mm), .ref aw, .ref ap, .ref an, .ref ae])), (aw, .inl (cI, 10, .inl wo)), (ap, .inl (cI, 10, .inl pr)), (an, .inl (cI, 10, .inl ne))] := hD
  refine lv_aload_n hx hb dX5_run_15 rfl (lv_at hl 0 rfl) ?_
  refine lv_iconst (v := (-1)) hx hb dX5_run_16 (by decide) ?_
  refine va_put (D := D) (ci := 5) (v := .int (-1)) (ty := .int) (C := RX5) (T := TX5) (N := 8) hx hb hts hi_5 tyX5 tyX5_ok nmX5 hown hK hP hD hS 0 rfl rfl 2 (by decide) hf_40 (fun _ h9 => h9) rfl (by decide +kernel) rfl rfl (Nat.le_of_ble_eq_true rfl) dX5_run_17 (fun H locs hP hD hS => ?_)
  have hP : va_P D vwCl [(se, .inr (5, [.ref pv, .int 0, .int (-1), .int x.2.2.1, .int 0, .int bv, .ref wy, .ref kp])), (wy, .inl (cI, 8, .inl x.2.2.2.2.1)), (kp, .inl (cI, 8, .inl x.2.2.2.2.2)), (pv, .inr (4, [.ref av, .int ke])), (av, .inl (cI, 8, .inl ow)), (nt, .inr (3, [.int (nI nn), .int (nI mm), .ref aw, .ref ap, .ref an, .ref ae])), (aw, .inl (cI, 10, .inl wo)), (ap, .inl (cI, 10, .inl pr)), (an, .inl (cI, 10, .inl ne))] H := hP
  have hD : va_D A [(se, .inr (5, [.ref pv, .int 0, .int (-1), .int x.2.2.1, .int 0, .int bv, .ref wy, .ref kp])), (wy, .inl (cI, 8, .inl x.2.2.2.2.1)), (kp, .inl (cI, 8, .inl x.2.2.2.2.2)), (pv, .inr (4, [.ref av, .int ke])), (av, .inl (cI, 8, .inl ow)), (nt, .inr (3, [.int (nI nn), .int (nI mm), .ref aw, .ref ap, .ref an, .ref ae])), (aw, .inl (cI, 10, .inl wo)), (ap, .inl (cI, 10, .inl pr)), (an, .inl (cI, 10, .inl ne))] := hD
  refine lv_aload_n hx hb dX5_run_20 rfl (lv_at hl 0 rfl) ?_
  refine lv_aload_n hx hb dX5_run_21 rfl (lv_at hl 1 rfl) ?_
  refine lv_iconst (v := 1) hx hb dX5_run_22 (by decide) ?_
  refine lv_iload_n hx hb dX5_run_23 rfl (lv_at hl 3 rfl) ?_
  refine lv_iconst (v := 0) hx hb dX5_run_24 (by decide) ?_
  refine lv_aload_n hx hb dX5_run_25 rfl (lv_at hl 0 rfl) ?_
  refine va_get (D := D) (ci := 5) (v := .ref pv) (C := RX5) (T := TX5) (N := 8) hx hb hts hi_5 hown hK hP 0 rfl rfl 0 (by decide) hf_12 (fun _ h9 => h9) rfl dX5_run_26 ?_
  refine lv_iconst (v := 1) hx hb dX5_run_29 (by decide) ?_
  refine lv_iconst (v := 0) hx hb dX5_run_30 (by decide) ?_
  refine goRI hP hS (va_runV (As := [.int 1, .int 0]) (rest := [.int 0, .int fire, .int 1, .ref nt, .ref se]) ⟨hx, hb, hml, hown, hts⟩ (kX4_money l D cI cJ pv av 1 ke 0 ow (Nat.le_refl 1) (by omega)) (cwV 2 hts gX5_run_X4_money rfl rfl rfl kdX4_money ⟨Nat.le_of_ble_eq_true rfl, Nat.le_of_ble_eq_true rfl⟩) (preRV hK hN hP 3 (ci := 4) rfl rfl rfl [3, 4] rfl) rfl rfl hl.1 rfl (lv_room (Nat.le_of_ble_eq_true rfl)) dX5_run_31 ⟨Nat.zero_le _, Nat.zero_le _⟩) (fun H locs hP hS => ?_)
  obtain ⟨y_34, hy_34⟩ : ∃ z : Ss, z = seekF (nI nn) wo pr ne ow ke bv (d + 1) 1 fire 0 (moneyI ow ke 1 0) (0, -1, x.2.2.1, false, x.2.2.2.2.1, x.2.2.2.2.2) := ⟨_, rfl⟩
  refine goMV hP hD hS (va_runV (As := [.ref nt, .int 1, .int fire, .int 0, .int (moneyI ow ke 1 0)]) (rest := []) ⟨hx, hb, hml, hown, hts⟩ (kX5_seekAll l D cI cJ se pv wy kp bv av ke ow nt aw ap an ae nn mm wo pr ne d 1 (Nat.le_refl 1) hd fire 0 (moneyI ow ke 1 0) (0, -1, x.2.2.1, false, x.2.2.2.2.1, x.2.2.2.2.2) y_34 hy_34) (cwV 5 hts gX5_run_X5_seek rfl rfl rfl kdX5_seek ⟨by rw [show d = 7 by omega]; exact Nat.le_of_ble_eq_true rfl, by rw [show d = 7 by omega]; exact Nat.le_of_ble_eq_true rfl⟩) (preMV hK hN hP hD 0 (ci := 5) rfl rfl rfl [0, 1, 2, 3, 4, 5, 6, 7, 8] rfl (by decide)) rfl rfl hl.1 rfl (lv_room (Nat.le_of_ble_eq_true rfl)) dX5_run_34 ⟨Nat.zero_le _, Nat.zero_le _⟩) [0, 1, 2, 3, 4, 5, 6, 7, 8] rfl (by decide) (fun _ => (show ([se, wy, kp, pv, av, nt, aw, ap, an] : List Nat) = [se, wy, kp, pv, av, nt, aw, ap, an] from rfl)) (fun _ H locs hp_34 hP hD hS => ?_)
  have hP : va_P D vwCl [(se, .inr (5, [.ref pv, .int y_34.1, .int y_34.2.1, .int y_34.2.2.1, .int (zb (y_34.2.2.2.1 = true)), .int bv, .ref wy, .ref kp])), (wy, .inl (cI, 8, .inl y_34.2.2.2.2.1)), (kp, .inl (cI, 8, .inl y_34.2.2.2.2.2)), (pv, .inr (4, [.ref av, .int ke])), (av, .inl (cI, 8, .inl ow)), (nt, .inr (3, [.int (nI nn), .int (nI mm), .ref aw, .ref ap, .ref an, .ref ae])), (aw, .inl (cI, 10, .inl wo)), (ap, .inl (cI, 10, .inl pr)), (an, .inl (cI, 10, .inl ne))] H := hP
  have hD : va_D A [(se, .inr (5, [.ref pv, .int y_34.1, .int y_34.2.1, .int y_34.2.2.1, .int (zb (y_34.2.2.2.1 = true)), .int bv, .ref wy, .ref kp])), (wy, .inl (cI, 8, .inl y_34.2.2.2.2.1)), (kp, .inl (cI, 8, .inl y_34.2.2.2.2.2)), (pv, .inr (4, [.ref av, .int ke])), (av, .inl (cI, 8, .inl ow)), (nt, .inr (3, [.int (nI nn), .int (nI mm), .ref aw, .ref ap, .ref an, .ref ae])), (aw, .inl (cI, 10, .inl wo)), (ap, .inl (cI, 10, .inl pr)), (an, .inl (cI, 10, .inl ne))] := hD
  exact endMV () hx hb hr hlocks hA hQ hS hP dX5_run_37 (by rw [hy, hy_34]) trivial

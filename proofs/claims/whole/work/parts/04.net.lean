def rmX6_within : Room := { frames := 0, cells := 0, slots := 0, locals := 0 }
theorem kdX6_within : yX6_within.cls = RX6 ∧ yX6_within.cls ≠ "java/lang/invoke/MethodHandle" ∧ yX6_within.cls ≠ "java/lang/invoke/VarHandle" ∧ (parseMethodDescriptor yX6_within.desc).map (fun d => d.parameters.length) = some 3 := ⟨rfl, by decide +kernel, by decide +kernel, by decide +kernel⟩
set_option maxRecDepth 100000 in
set_option maxHeartbeats 1000000 in
theorem kX6_within (l : Launch) (D : va_G) (cI cJ : ClassId) (v a b : Int32)  : Met l yX6_within wsX6_within rmX6_within (rPre D cI cJ [.int v, .int a, .int b] []) (qRI (zb (a ≤ v ∧ v ≤ b))) 0 0 nA := by
  refine startR (cc := cX6_within) (maxL := 3) (ret := (some .boolean)) (by decide) rfl (Nat.le_of_ble_eq_true rfl) ?_
  intro p e s m args below meth c ls Q hQ hx hb hr hlocks hml hown hts hK hN hP hl hin
  have hown : s.vm.findClass RX6 = some m.cls := hown
  have hS : va_S nA s.heap s.heap [] := va_S.rf
  have hl : lv_has ls 3 [(0, .int v), (1, .int a), (2, .int b)] := hl
  have hP : va_P D vwCl [] s.heap := hP
  refine lv_iload_n hx hb dX6_within_0 rfl (lv_at hl 0 rfl) ?_
  refine lv_iload_n hx hb dX6_within_1 rfl (lv_at hl 1 rfl) ?_
  refine lv_icmp_lt (tgt := 14) hx hb dX6_within_2 (by decide) (fun c_2 => ?_) (fun c_2 => ?_)
  · refine lv_iconst (v := 0) hx hb dX6_within_14 (by decide) ?_
    exact endRZ hx hb hr hlocks hQ hS dX6_within_15 rfl (zb_f (fun h => i_nlt h.1 c_2))
  · refine lv_iload_n hx hb dX6_within_5 rfl (lv_at hl 0 rfl) ?_
    refine lv_iload_n hx hb dX6_within_6 rfl (lv_at hl 2 rfl) ?_
    refine lv_icmp_gt (tgt := 14) hx hb dX6_within_7 (by decide) (fun c_7 => ?_) (fun c_7 => ?_)
    · refine lv_iconst (v := 0) hx hb dX6_within_14 (by decide) ?_
      exact endRZ hx hb hr hlocks hQ hS dX6_within_15 rfl (zb_f (fun h => i_nle c_7 h.2))
    · refine lv_iconst (v := 1) hx hb dX6_within_10 (by decide) ?_
      refine lv_goto (tgt := 15) hx hb dX6_within_11 (by decide) ?_
      exact endRZ hx hb hr hlocks hQ hS dX6_within_15 rfl (zb_t ⟨i_lt c_2, i_lt c_7⟩)
def rmX6_holds : Room := { frames := 0, cells := 0, slots := 0, locals := 0 }
theorem kdX6_holds : yX6_holds.cls = RX6 ∧ yX6_holds.cls ≠ "java/lang/invoke/MethodHandle" ∧ yX6_holds.cls ≠ "java/lang/invoke/VarHandle" ∧ (parseMethodDescriptor yX6_holds.desc).map (fun d => d.parameters.length) = some 2 := ⟨rfl, by decide +kernel, by decide +kernel, by decide +kernel⟩
set_option maxRecDepth 100000 in
set_option maxHeartbeats 1000000 in
theorem kX6_holds (l : Launch) (D : va_G) (cI cJ : ClassId) (v a : Int32)  : Met l yX6_holds wsX6_holds rmX6_holds (rPre D cI cJ [.int v, .int a] []) (qRI (zb (¬ bt v a = 0))) 0 0 nA := by
  refine startR (cc := cX6_holds) (maxL := 2) (ret := (some .boolean)) (by decide) rfl (Nat.le_of_ble_eq_true rfl) ?_
  intro p e s m args below meth c ls Q hQ hx hb hr hlocks hml hown hts hK hN hP hl hin
  have hown : s.vm.findClass RX6 = some m.cls := hown
  have hS : va_S nA s.heap s.heap [] := va_S.rf
  have hl : lv_has ls 2 [(0, .int v), (1, .int a)] := hl
  have hP : va_P D vwCl [] s.heap := hP
  refine lv_iload_n hx hb dX6_holds_0 rfl (lv_at hl 0 rfl) ?_
  refine lv_iload_n hx hb dX6_holds_1 rfl (lv_at hl 1 rfl) ?_
  refine lv_ishr hx hb dX6_holds_2 ?_
  refine lv_iconst (v := 1) hx hb dX6_holds_3 (by decide) ?_
  refine lv_iand hx hb dX6_holds_4 ?_
  refine lv_if_eq (tgt := 12) hx hb dX6_holds_5 (by decide) (fun c_5 => ?_) (fun c_5 => ?_)
  · refine lv_iconst (v := 0) hx hb dX6_holds_12 (by decide) ?_
    exact endRZ hx hb hr hlocks hQ hS dX6_holds_13 rfl (zb_f (fun h => h c_5))
  · refine lv_iconst (v := 1) hx hb dX6_holds_8 (by decide) ?_
    refine lv_goto (tgt := 13) hx hb dX6_holds_9 (by decide) ?_
    exact endRZ hx hb hr hlocks hQ hS dX6_holds_13 rfl (zb_t (P := ¬ bt v a = 0) c_5)
def rmX6_isRule : Room := { frames := 1, cells := 0, slots := 0, locals := 22 }
theorem kdX6_isRule : yX6_isRule.cls = RX6 ∧ yX6_isRule.cls ≠ "java/lang/invoke/MethodHandle" ∧ yX6_isRule.cls ≠ "java/lang/invoke/VarHandle" ∧ (parseMethodDescriptor yX6_isRule.desc).map (fun d => d.parameters.length) = some 1 := ⟨rfl, by decide +kernel, by decide +kernel, by decide +kernel⟩
set_option maxRecDepth 100000 in
set_option maxHeartbeats 1000000 in
theorem kX6_isRule (l : Launch) (D : va_G) (cI cJ : ClassId) (v : Int32)  : Met l yX6_isRule wsX6_isRule rmX6_isRule (rPre D cI cJ [.int v] []) (qRI (zb (0 ≤ v ∧ v ≤ 2))) 0 0 nA := by
  refine startR (cc := cX6_isRule) (maxL := 1) (ret := (some .boolean)) (by decide) rfl (Nat.le_of_ble_eq_true rfl) ?_
  intro p e s m args below meth c ls Q hQ hx hb hr hlocks hml hown hts hK hN hP hl hin
  have hown : s.vm.findClass RX6 = some m.cls := hown
  have hS : va_S nA s.heap s.heap [] := va_S.rf
  have hl : lv_has ls 1 [(0, .int v)] := hl
  have hP : va_P D vwCl [] s.heap := hP
  refine lv_iload_n hx hb dX6_isRule_0 rfl (lv_at hl 0 rfl) ?_
  refine lv_iconst (v := 0) hx hb dX6_isRule_1 (by decide) ?_
  refine lv_iconst (v := 2) hx hb dX6_isRule_2 (by decide) ?_
  refine goRI hP hS (va_runS (As := [.int v, .int 0, .int 2]) (rest := []) ⟨hx, hb, hml, hown, hts⟩ (kX6_within l D cI cJ v 0 2) (va_cwS 3 hts gX6_isRule_X6_within rfl rfl rfl kdX6_within.2 ⟨Nat.le_of_ble_eq_true rfl, Nat.le_of_ble_eq_true rfl⟩) (preR hK hN hP [] rfl) rfl rfl hl.1 rfl (lv_room (Nat.le_of_ble_eq_true rfl)) dX6_isRule_3 ⟨Nat.zero_le _, Nat.zero_le _⟩) (fun H locs hP hS => ?_)
  exact endRZ hx hb hr hlocks hQ hS dX6_isRule_6 zb_nar rfl
def rmJ6_bitCount_0f7a4 : Room := { frames := 0, cells := 0, slots := 0, locals := 0 }
theorem kdJ6_bitCount_0f7a4 : yJ6_bitCount_0f7a4.cls = RJ6 ∧ yJ6_bitCount_0f7a4.cls ≠ "java/lang/invoke/MethodHandle" ∧ yJ6_bitCount_0f7a4.cls ≠ "java/lang/invoke/VarHandle" ∧ (parseMethodDescriptor yJ6_bitCount_0f7a4.desc).map (fun d => d.parameters.length) = some 1 := ⟨rfl, by decide +kernel, by decide +kernel, by decide +kernel⟩
set_option maxRecDepth 100000 in
set_option maxHeartbeats 1000000 in
theorem kJ6_bitCount_0f7a4 (l : Launch) (D : va_G) (cI cJ : ClassId) (v : Int32)  : Met l yJ6_bitCount_0f7a4 wsJ6_bitCount_0f7a4 rmJ6_bitCount_0f7a4 (rPre D cI cJ [.int v] []) (qRI (popI v)) 0 0 nA := by
  refine startR (cc := cJ6_bitCount_0f7a4) (maxL := 1) (ret := (some .int)) (by decide) rfl (Nat.le_of_ble_eq_true rfl) ?_
  intro p e s m args below meth c ls Q hQ hx hb hr hlocks hml hown hts hK hN hP hl hin
  have hown : s.vm.findClass RJ6 = some m.cls := hown
  have hc_265 := hts (.constant RJ6 265 (1431655765)) (by decide +kernel)
  have hc_266 := hts (.constant RJ6 266 (858993459)) (by decide +kernel)
  have hc_267 := hts (.constant RJ6 267 (252645135)) (by decide +kernel)
  have hS : va_S nA s.heap s.heap [] := va_S.rf
  have hl : lv_has ls 1 [(0, .int v)] := hl
  have hP : va_P D vwCl [] s.heap := hP
  refine lv_iload_n hx hb dJ6_bitCount_0f7a4_0 rfl (lv_at hl 0 rfl) ?_
  refine lv_iload_n hx hb dJ6_bitCount_0f7a4_1 rfl (lv_at hl 0 rfl) ?_
  refine lv_iconst (v := 1) hx hb dJ6_bitCount_0f7a4_2 (by decide) ?_
  refine lv_iushr (v := (v.toUInt32 >>> ((1 : Int32).toUInt32 &&& Int32.toUInt32 31)).toInt32) hx hb dJ6_bitCount_0f7a4_3 rfl ?_
  refine lv_ldcw (v := 1431655765) hx hb hown hc_265 dJ6_bitCount_0f7a4_4 ?_
  refine lv_iand hx hb dJ6_bitCount_0f7a4_7 ?_
  refine lv_isub hx hb dJ6_bitCount_0f7a4_8 ?_
  refine lv_istore_n (lv' := [(0, .int (v - (((v.toUInt32 >>> ((1 : Int32).toUInt32 &&& Int32.toUInt32 31)).toInt32) &&& 1431655765)))]) hx hb dJ6_bitCount_0f7a4_9 rfl hl (by decide) rfl (fun ls hl => ?_)
  refine lv_iload_n hx hb dJ6_bitCount_0f7a4_10 rfl (lv_at hl 0 rfl) ?_
  refine lv_ldcw (v := 858993459) hx hb hown hc_266 dJ6_bitCount_0f7a4_11 ?_
  refine lv_iand hx hb dJ6_bitCount_0f7a4_14 ?_
  refine lv_iload_n hx hb dJ6_bitCount_0f7a4_15 rfl (lv_at hl 0 rfl) ?_
  refine lv_iconst (v := 2) hx hb dJ6_bitCount_0f7a4_16 (by decide) ?_
  refine lv_iushr (v := ((v - (((v.toUInt32 >>> ((1 : Int32).toUInt32 &&& Int32.toUInt32 31)).toInt32) &&& 1431655765)).toUInt32 >>> ((2 : Int32).toUInt32 &&& Int32.toUInt32 31)).toInt32) hx hb dJ6_bitCount_0f7a4_17 rfl ?_
  refine lv_ldcw (v := 858993459) hx hb hown hc_266 dJ6_bitCount_0f7a4_18 ?_
  refine lv_iand hx hb dJ6_bitCount_0f7a4_21 ?_
  refine lv_iadd hx hb dJ6_bitCount_0f7a4_22 ?_
  refine lv_istore_n (lv' := [(0, .int (((v - (((v.toUInt32 >>> ((1 : Int32).toUInt32 &&& Int32.toUInt32 31)).toInt32) &&& 1431655765)) &&& 858993459) + ((((v - (((v.toUInt32 >>> ((1 : Int32).toUInt32 &&& Int32.toUInt32 31)).toInt32) &&& 1431655765)).toUInt32 >>> ((2 : Int32).toUInt32 &&& Int32.toUInt32 31)).toInt32) &&& 858993459)))]) hx hb dJ6_bitCount_0f7a4_23 rfl hl (by decide) rfl (fun ls hl => ?_)
  refine lv_iload_n hx hb dJ6_bitCount_0f7a4_24 rfl (lv_at hl 0 rfl) ?_
  refine lv_iload_n hx hb dJ6_bitCount_0f7a4_25 rfl (lv_at hl 0 rfl) ?_
  refine lv_iconst (v := 4) hx hb dJ6_bitCount_0f7a4_26 (by decide) ?_
  refine lv_iushr (v := ((((v - (((v.toUInt32 >>> ((1 : Int32).toUInt32 &&& Int32.toUInt32 31)).toInt32) &&& 1431655765)) &&& 858993459) + ((((v - (((v.toUInt32 >>> ((1 : Int32).toUInt32 &&& Int32.toUInt32 31)).toInt32) &&& 1431655765)).toUInt32 >>> ((2 : Int32).toUInt32 &&& Int32.toUInt32 31)).toInt32) &&& 858993459)).toUInt32 >>> ((4 : Int32).toUInt32 &&& Int32.toUInt32 31)).toInt32) hx hb dJ6_bitCount_0f7a4_27 rfl ?_
  refine lv_iadd hx hb dJ6_bitCount_0f7a4_28 ?_
  refine lv_ldcw (v := 252645135) hx hb hown hc_267 dJ6_bitCount_0f7a4_29 ?_
  refine lv_iand hx hb dJ6_bitCount_0f7a4_32 ?_
  refine lv_istore_n (lv' := [(0, .int (((((v - (((v.toUInt32 >>> ((1 : Int32).toUInt32 &&& Int32.toUInt32 31)).toInt32) &&& 1431655765)) &&& 858993459) + ((((v - (((v.toUInt32 >>> ((1 : Int32).toUInt32 &&& Int32.toUInt32 31)).toInt32) &&& 1431655765)).toUInt32 >>> ((2 : Int32).toUInt32 &&& Int32.toUInt32 31)).toInt32) &&& 858993459)) + (((((v - (((v.toUInt32 >>> ((1 : Int32).toUInt32 &&& Int32.toUInt32 31)).toInt32) &&& 1431655765)) &&& 858993459) + ((((v - (((v.toUInt32 >>> ((1 : Int32).toUInt32 &&& Int32.toUInt32 31)).toInt32) &&& 1431655765)).toUInt32 >>> ((2 : Int32).toUInt32 &&& Int32.toUInt32 31)).toInt32) &&& 858993459)).toUInt32 >>> ((4 : Int32).toUInt32 &&& Int32.toUInt32 31)).toInt32)) &&& 252645135))]) hx hb dJ6_bitCount_0f7a4_33 rfl hl (by decide) rfl (fun ls hl => ?_)
  refine lv_iload_n hx hb dJ6_bitCount_0f7a4_34 rfl (lv_at hl 0 rfl) ?_
  refine lv_iload_n hx hb dJ6_bitCount_0f7a4_35 rfl (lv_at hl 0 rfl) ?_
  refine lv_bipush (v := 8) hx hb dJ6_bitCount_0f7a4_36 (by decide) ?_
  refine lv_iushr (v := ((((((v - (((v.toUInt32 >>> ((1 : Int32).toUInt32 &&& Int32.toUInt32 31)).toInt32) &&& 1431655765)) &&& 858993459) + ((((v - (((v.toUInt32 >>> ((1 : Int32).toUInt32 &&& Int32.toUInt32 31)).toInt32) &&& 1431655765)).toUInt32 >>> ((2 : Int32).toUInt32 &&& Int32.toUInt32 31)).toInt32) &&& 858993459)) + (((((v - (((v.toUInt32 >>> ((1 : Int32).toUInt32 &&& Int32.toUInt32 31)).toInt32) &&& 1431655765)) &&& 858993459) + ((((v - (((v.toUInt32 >>> ((1 : Int32).toUInt32 &&& Int32.toUInt32 31)).toInt32) &&& 1431655765)).toUInt32 >>> ((2 : Int32).toUInt32 &&& Int32.toUInt32 31)).toInt32) &&& 858993459)).toUInt32 >>> ((4 : Int32).toUInt32 &&& Int32.toUInt32 31)).toInt32)) &&& 252645135).toUInt32 >>> ((8 : Int32).toUInt32 &&& Int32.toUInt32 31)).toInt32) hx hb dJ6_bitCount_0f7a4_38 rfl ?_
  refine lv_iadd hx hb dJ6_bitCount_0f7a4_39 ?_
  refine lv_istore_n (lv' := [(0, .int ((((((v - (((v.toUInt32 >>> ((1 : Int32).toUInt32 &&& Int32.toUInt32 31)).toInt32) &&& 1431655765)) &&& 858993459) + ((((v - (((v.toUInt32 >>> ((1 : Int32).toUInt32 &&& Int32.toUInt32 31)).toInt32) &&& 1431655765)).toUInt32 >>> ((2 : Int32).toUInt32 &&& Int32.toUInt32 31)).toInt32) &&& 858993459)) + (((((v - (((v.toUInt32 >>> ((1 : Int32).toUInt32 &&& Int32.toUInt32 31)).toInt32) &&& 1431655765)) &&& 858993459) + ((((v - (((v.toUInt32 >>> ((1 : Int32).toUInt32 &&& Int32.toUInt32 31)).toInt32) &&& 1431655765)).toUInt32 >>> ((2 : Int32).toUInt32 &&& Int32.toUInt32 31)).toInt32) &&& 858993459)).toUInt32 >>> ((4 : Int32).toUInt32 &&& Int32.toUInt32 31)).toInt32)) &&& 252645135) + (((((((v - (((v.toUInt32 >>> ((1 : Int32).toUInt32 &&& Int32.toUInt32 31)).toInt32) &&& 1431655765)) &&& 858993459) + ((((v - (((v.toUInt32 >>> ((1 : Int32).toUInt32 &&& Int32.toUInt32 31)).toInt32) &&& 1431655765)).toUInt32 >>> ((2 : Int32).toUInt32 &&& Int32.toUInt32 31)).toInt32) &&& 858993459)) + (((((v - (((v.toUInt32 >>> ((1 : Int32).toUInt32 &&& Int32.toUInt32 31)).toInt32) &&& 1431655765)) &&& 858993459) + ((((v - (((v.toUInt32 >>> ((1 : Int32).toUInt32 &&& Int32.toUInt32 31)).toInt32) &&& 1431655765)).toUInt32 >>> ((2 : Int32).toUInt32 &&& Int32.toUInt32 31)).toInt32) &&& 858993459)).toUInt32 >>> ((4 : Int32).toUInt32 &&& Int32.toUInt32 31)).toInt32)) &&& 252645135).toUInt32 >>> ((8 : Int32).toUInt32 &&& Int32.toUInt32 31)).toInt32)))]) hx hb dJ6_bitCount_0f7a4_40 rfl hl (by decide) rfl (fun ls hl => ?_)
  refine lv_iload_n hx hb dJ6_bitCount_0f7a4_41 rfl (lv_at hl 0 rfl) ?_
  refine lv_iload_n hx hb dJ6_bitCount_0f7a4_42 rfl (lv_at hl 0 rfl) ?_
  refine lv_bipush (v := 16) hx hb dJ6_bitCount_0f7a4_43 (by decide) ?_
  refine lv_iushr (v := (((((((v - (((v.toUInt32 >>> ((1 : Int32).toUInt32 &&& Int32.toUInt32 31)).toInt32) &&& 1431655765)) &&& 858993459) + ((((v - (((v.toUInt32 >>> ((1 : Int32).toUInt32 &&& Int32.toUInt32 31)).toInt32) &&& 1431655765)).toUInt32 >>> ((2 : Int32).toUInt32 &&& Int32.toUInt32 31)).toInt32) &&& 858993459)) + (((((v - (((v.toUInt32 >>> ((1 : Int32).toUInt32 &&& Int32.toUInt32 31)).toInt32) &&& 1431655765)) &&& 858993459) + ((((v - (((v.toUInt32 >>> ((1 : Int32).toUInt32 &&& Int32.toUInt32 31)).toInt32) &&& 1431655765)).toUInt32 >>> ((2 : Int32).toUInt32 &&& Int32.toUInt32 31)).toInt32) &&& 858993459)).toUInt32 >>> ((4 : Int32).toUInt32 &&& Int32.toUInt32 31)).toInt32)) &&& 252645135) + (((((((v - (((v.toUInt32 >>> ((1 : Int32).toUInt32 &&& Int32.toUInt32 31)).toInt32) &&& 1431655765)) &&& 858993459) + ((((v - (((v.toUInt32 >>> ((1 : Int32).toUInt32 &&& Int32.toUInt32 31)).toInt32) &&& 1431655765)).toUInt32 >>> ((2 : Int32).toUInt32 &&& Int32.toUInt32 31)).toInt32) &&& 858993459)) + (((((v - (((v.toUInt32 >>> ((1 : Int32).toUInt32 &&& Int32.toUInt32 31)).toInt32) &&& 1431655765)) &&& 858993459) + ((((v - (((v.toUInt32 >>> ((1 : Int32).toUInt32 &&& Int32.toUInt32 31)).toInt32) &&& 1431655765)).toUInt32 >>> ((2 : Int32).toUInt32 &&& Int32.toUInt32 31)).toInt32) &&& 858993459)).toUInt32 >>> ((4 : Int32).toUInt32 &&& Int32.toUInt32 31)).toInt32)) &&& 252645135).toUInt32 >>> ((8 : Int32).toUInt32 &&& Int32.toUInt32 31)).toInt32)).toUInt32 >>> ((16 : Int32).toUInt32 &&& Int32.toUInt32 31)).toInt32) hx hb dJ6_bitCount_0f7a4_45 rfl ?_
  refine lv_iadd hx hb dJ6_bitCount_0f7a4_46 ?_
  refine lv_istore_n (lv' := [(0, .int (((((((v - (((v.toUInt32 >>> ((1 : Int32).toUInt32 &&& Int32.toUInt32 31)).toInt32) &&& 1431655765)) &&& 858993459) + ((((v - (((v.toUInt32 >>> ((1 : Int32).toUInt32 &&& Int32.toUInt32 31)).toInt32) &&& 1431655765)).toUInt32 >>> ((2 : Int32).toUInt32 &&& Int32.toUInt32 31)).toInt32) &&& 858993459)) + (((((v - (((v.toUInt32 >>> ((1 : Int32).toUInt32 &&& Int32.toUInt32 31)).toInt32) &&& 1431655765)) &&& 858993459) + ((((v - (((v.toUInt32 >>> ((1 : Int32).toUInt32 &&& Int32.toUInt32 31)).toInt32) &&& 1431655765)).toUInt32 >>> ((2 : Int32).toUInt32 &&& Int32.toUInt32 31)).toInt32) &&& 858993459)).toUInt32 >>> ((4 : Int32).toUInt32 &&& Int32.toUInt32 31)).toInt32)) &&& 252645135) + (((((((v - (((v.toUInt32 >>> ((1 : Int32).toUInt32 &&& Int32.toUInt32 31)).toInt32) &&& 1431655765)) &&& 858993459) + ((((v - (((v.toUInt32 >>> ((1 : Int32).toUInt32 &&& Int32.toUInt32 31)).toInt32) &&& 1431655765)).toUInt32 >>> ((2 : Int32).toUInt32 &&& Int32.toUInt32 31)).toInt32) &&& 858993459)) + (((((v - (((v.toUInt32 >>> ((1 : Int32).toUInt32 &&& Int32.toUInt32 31)).toInt32) &&& 1431655765)) &&& 858993459) + ((((v - (((v.toUInt32 >>> ((1 : Int32).toUInt32 &&& Int32.toUInt32 31)).toInt32) &&& 1431655765)).toUInt32 >>> ((2 : Int32).toUInt32 &&& Int32.toUInt32 31)).toInt32) &&& 858993459)).toUInt32 >>> ((4 : Int32).toUInt32 &&& Int32.toUInt32 31)).toInt32)) &&& 252645135).toUInt32 >>> ((8 : Int32).toUInt32 &&& Int32.toUInt32 31)).toInt32)) + ((((((((v - (((v.toUInt32 >>> ((1 : Int32).toUInt32 &&& Int32.toUInt32 31)).toInt32) &&& 1431655765)) &&& 858993459) + ((((v - (((v.toUInt32 >>> ((1 : Int32).toUInt32 &&& Int32.toUInt32 31)).toInt32) &&& 1431655765)).toUInt32 >>> ((2 : Int32).toUInt32 &&& Int32.toUInt32 31)).toInt32) &&& 858993459)) + (((((v - (((v.toUInt32 >>> ((1 : Int32).toUInt32 &&& Int32.toUInt32 31)).toInt32) &&& 1431655765)) &&& 858993459) + ((((v - (((v.toUInt32 >>> ((1 : Int32).toUInt32 &&& Int32.toUInt32 31)).toInt32) &&& 1431655765)).toUInt32 >>> ((2 : Int32).toUInt32 &&& Int32.toUInt32 31)).toInt32) &&& 858993459)).toUInt32 >>> ((4 : Int32).toUInt32 &&& Int32.toUInt32 31)).toInt32)) &&& 252645135) + (((((((v - (((v.toUInt32 >>> ((1 : Int32).toUInt32 &&& Int32.toUInt32 31)).toInt32) &&& 1431655765)) &&& 858993459) + ((((v - (((v.toUInt32 >>> ((1 : Int32).toUInt32 &&& Int32.toUInt32 31)).toInt32) &&& 1431655765)).toUInt32 >>> ((2 : Int32).toUInt32 &&& Int32.toUInt32 31)).toInt32) &&& 858993459)) + (((((v - (((v.toUInt32 >>> ((1 : Int32).toUInt32 &&& Int32.toUInt32 31)).toInt32) &&& 1431655765)) &&& 858993459) + ((((v - (((v.toUInt32 >>> ((1 : Int32).toUInt32 &&& Int32.toUInt32 31)).toInt32) &&& 1431655765)).toUInt32 >>> ((2 : Int32).toUInt32 &&& Int32.toUInt32 31)).toInt32) &&& 858993459)).toUInt32 >>> ((4 : Int32).toUInt32 &&& Int32.toUInt32 31)).toInt32)) &&& 252645135).toUInt32 >>> ((8 : Int32).toUInt32 &&& Int32.toUInt32 31)).toInt32)).toUInt32 >>> ((16 : Int32).toUInt32 &&& Int32.toUInt32 31)).toInt32)))]) hx hb dJ6_bitCount_0f7a4_47 rfl hl (by decide) rfl (fun ls hl => ?_)
  refine lv_iload_n hx hb dJ6_bitCount_0f7a4_48 rfl (lv_at hl 0 rfl) ?_
  refine lv_bipush (v := 63) hx hb dJ6_bitCount_0f7a4_49 (by decide) ?_
  refine lv_iand hx hb dJ6_bitCount_0f7a4_51 ?_
  exact endRI hx hb hr hlocks hQ hS dJ6_bitCount_0f7a4_52 rfl
def rmX3_has : Room := { frames := 1, cells := 0, slots := 0, locals := 22 }
theorem kdX3_has : yX3_has.cls = RX3 ∧ yX3_has.cls ≠ "java/lang/invoke/MethodHandle" ∧ yX3_has.cls ≠ "java/lang/invoke/VarHandle" ∧ (parseMethodDescriptor yX3_has.desc).map (fun d => d.parameters.length) = some 1 := ⟨rfl, by decide +kernel, by decide +kernel, by decide +kernel⟩
set_option maxRecDepth 100000 in
set_option maxHeartbeats 1000000 in
theorem kX3_has (l : Launch) (D : va_G) (cI cJ : ClassId) (nt aw ap an ae nn mm : Nat) (k : Int32)  : Met l yX3_has wsX3_has rmX3_has (rPre D cI cJ [.ref nt, .int k] [(nt, .inr (3, [.int (nI nn), .int (nI mm), .ref aw, .ref ap, .ref an, .ref ae]))]) (qRI (zb (0 ≤ k ∧ k ≤ nI nn - 1))) 0 0 nA := by
  refine startR (cc := cX3_has) (maxL := 2) (ret := (some .boolean)) (by decide) rfl (Nat.le_of_ble_eq_true rfl) ?_
  intro p e s m args below meth c ls Q hQ hx hb hr hlocks hml hown hts hK hN hP hl hin
  have hown : s.vm.findClass RX3 = some m.cls := hown
  have hi_3 : ∀ w ∈ wsX30, w ∈ wsX3_has := by decide +kernel
  have hf_28 := hts (.fieldLink RX3 28 "FireNets$Net" "nodes" "I") (by decide +kernel)
  have hini_RX6 := hts (.initialized RX6) (by decide +kernel)
  have hst_X6_within := hts (.static yX6_within) (by decide +kernel)
  have hS : va_S nA s.heap s.heap [] := va_S.rf
  have hl : lv_has ls 2 [(0, .ref nt), (1, .int k)] := hl
  have hP : va_P D vwCl [(nt, .inr (3, [.int (nI nn), .int (nI mm), .ref aw, .ref ap, .ref an, .ref ae]))] s.heap := hP
  refine lv_iload_n hx hb dX3_has_0 rfl (lv_at hl 1 rfl) ?_
  refine lv_iconst (v := 0) hx hb dX3_has_1 (by decide) ?_
  refine lv_aload_n hx hb dX3_has_2 rfl (lv_at hl 0 rfl) ?_
  refine va_get (D := D) (ci := 3) (v := .int (nI nn)) (C := RX3) (T := TX3) (N := 6) hx hb hts hi_3 hown hK hP 0 rfl rfl 0 (by decide) hf_28 (fun _ h9 => h9) rfl dX3_has_3 ?_
  refine lv_iconst (v := 1) hx hb dX3_has_6 (by decide) ?_
  refine lv_isub hx hb dX3_has_7 ?_
  refine goRI hP hS (va_runSN (As := [.int k, .int 0, .int ((nI nn) - 1)]) (rest := []) ⟨hx, hb, hml, hown, hts⟩ (kX6_within l D cI cJ k 0 ((nI nn) - 1)) ⟨va_cnB (host := "FireNets") 3 hts gX3_has_X6_within_n41 rfl rfl rfl (hN _ nwm_RX3_41) hini_RX6 kdX6_within.2 ⟨Nat.le_of_ble_eq_true rfl, Nat.le_of_ble_eq_true rfl⟩, hst_X6_within, trivial⟩ (preR hK hN hP [] rfl) rfl rfl hl.1 rfl (lv_room (Nat.le_of_ble_eq_true rfl)) dX3_has_8 ⟨Nat.zero_le _, Nat.zero_le _⟩) (fun H locs hP hS => ?_)
  exact endRZ hx hb hr hlocks hQ hS dX3_has_11 zb_nar rfl
def rmX3_all : Room := { frames := 0, cells := 0, slots := 0, locals := 0 }
theorem kdX3_all : yX3_all.cls = RX3 ∧ yX3_all.cls ≠ "java/lang/invoke/MethodHandle" ∧ yX3_all.cls ≠ "java/lang/invoke/VarHandle" ∧ (parseMethodDescriptor yX3_all.desc).map (fun d => d.parameters.length) = some 0 := ⟨rfl, by decide +kernel, by decide +kernel, by decide +kernel⟩
set_option maxRecDepth 100000 in
set_option maxHeartbeats 1000000 in
theorem kX3_all (l : Launch) (D : va_G) (cI cJ : ClassId) (nt aw ap an ae nn mm : Nat)  : Met l yX3_all wsX3_all rmX3_all (rPre D cI cJ [.ref nt] [(nt, .inr (3, [.int (nI nn), .int (nI mm), .ref aw, .ref ap, .ref an, .ref ae]))]) (qRI (allI (nI nn))) 0 0 nA := by
  refine startR (cc := cX3_all) (maxL := 1) (ret := (some .int)) (by decide) rfl (Nat.le_of_ble_eq_true rfl) ?_
  intro p e s m args below meth c ls Q hQ hx hb hr hlocks hml hown hts hK hN hP hl hin
  have hown : s.vm.findClass RX3 = some m.cls := hown
  have hi_3 : ∀ w ∈ wsX30, w ∈ wsX3_all := by decide +kernel
  have hf_28 := hts (.fieldLink RX3 28 "FireNets$Net" "nodes" "I") (by decide +kernel)
  have hS : va_S nA s.heap s.heap [] := va_S.rf
  have hl : lv_has ls 1 [(0, .ref nt)] := hl
  have hP : va_P D vwCl [(nt, .inr (3, [.int (nI nn), .int (nI mm), .ref aw, .ref ap, .ref an, .ref ae]))] s.heap := hP
  refine lv_iconst (v := 1) hx hb dX3_all_0 (by decide) ?_
  refine lv_aload_n hx hb dX3_all_1 rfl (lv_at hl 0 rfl) ?_
  refine va_get (D := D) (ci := 3) (v := .int (nI nn)) (C := RX3) (T := TX3) (N := 6) hx hb hts hi_3 hown hK hP 0 rfl rfl 0 (by decide) hf_28 (fun _ h9 => h9) rfl dX3_all_2 ?_
  refine lv_ishl hx hb dX3_all_5 ?_
  refine lv_iconst (v := 1) hx hb dX3_all_6 (by decide) ?_
  refine lv_isub hx hb dX3_all_7 ?_
  exact endRI hx hb hr hlocks hQ hS dX3_all_8 rfl
def rmX3_isStart : Room := { frames := 1, cells := 0, slots := 0, locals := 22 }
theorem kdX3_isStart : yX3_isStart.cls = RX3 ∧ yX3_isStart.cls ≠ "java/lang/invoke/MethodHandle" ∧ yX3_isStart.cls ≠ "java/lang/invoke/VarHandle" ∧ (parseMethodDescriptor yX3_isStart.desc).map (fun d => d.parameters.length) = some 1 := ⟨rfl, by decide +kernel, by decide +kernel, by decide +kernel⟩
set_option maxRecDepth 100000 in
set_option maxHeartbeats 1000000 in
theorem kX3_isStart (l : Launch) (D : va_G) (cI cJ : ClassId) (nt aw ap an ae nn mm : Nat) (k : Int32)  : Met l yX3_isStart wsX3_isStart rmX3_isStart (rPre D cI cJ [.ref nt, .int k] [(nt, .inr (3, [.int (nI nn), .int (nI mm), .ref aw, .ref ap, .ref an, .ref ae]))]) (qRI (zb (1 ≤ k ∧ k ≤ allI (nI nn)))) 0 0 nA := by
  refine startR (cc := cX3_isStart) (maxL := 2) (ret := (some .boolean)) (by decide) rfl (Nat.le_of_ble_eq_true rfl) ?_
  intro p e s m args below meth c ls Q hQ hx hb hr hlocks hml hown hts hK hN hP hl hin
  have hown : s.vm.findClass RX3 = some m.cls := hown
  have hini_RX6 := hts (.initialized RX6) (by decide +kernel)
  have hst_X6_within := hts (.static yX6_within) (by decide +kernel)
  have hS : va_S nA s.heap s.heap [] := va_S.rf
  have hl : lv_has ls 2 [(0, .ref nt), (1, .int k)] := hl
  have hP : va_P D vwCl [(nt, .inr (3, [.int (nI nn), .int (nI mm), .ref aw, .ref ap, .ref an, .ref ae]))] s.heap := hP
  refine lv_iload_n hx hb dX3_isStart_0 rfl (lv_at hl 1 rfl) ?_
  refine lv_iconst (v := 1) hx hb dX3_isStart_1 (by decide) ?_
  refine lv_aload_n hx hb dX3_isStart_2 rfl (lv_at hl 0 rfl) ?_
  refine goRI hP hS (va_runV (As := []) (rest := [.int 1, .int k]) ⟨hx, hb, hml, hown, hts⟩ (kX3_all l D cI cJ nt aw ap an ae nn mm) (cwV 0 hts gX3_isStart_X3_all rfl rfl rfl kdX3_all ⟨Nat.le_of_ble_eq_true rfl, Nat.le_of_ble_eq_true rfl⟩) (preRV hK hN hP 0 (ci := 3) rfl rfl rfl [0] rfl) rfl rfl hl.1 rfl (lv_room (Nat.le_of_ble_eq_true rfl)) dX3_isStart_3 ⟨Nat.zero_le _, Nat.zero_le _⟩) (fun H locs hP hS => ?_)
  refine goRI hP hS (va_runSN (As := [.int k, .int 1, .int (allI (nI nn))]) (rest := []) ⟨hx, hb, hml, hown, hts⟩ (kX6_within l D cI cJ k 1 (allI (nI nn))) ⟨va_cnB (host := "FireNets") 3 hts gX3_isStart_X6_within_n41 rfl rfl rfl (hN _ nwm_RX3_41) hini_RX6 kdX6_within.2 ⟨Nat.le_of_ble_eq_true rfl, Nat.le_of_ble_eq_true rfl⟩, hst_X6_within, trivial⟩ (preR hK hN hP [] rfl) rfl rfl hl.1 rfl (lv_room (Nat.le_of_ble_eq_true rfl)) dX3_isStart_6 ⟨Nat.zero_le _, Nat.zero_le _⟩) (fun H locs hP hS => ?_)
  exact endRZ hx hb hr hlocks hQ hS dX3_isStart_9 zb_nar rfl
def rmX3_nearTo : Room := { frames := 0, cells := 0, slots := 0, locals := 0 }
theorem kdX3_nearTo : yX3_nearTo.cls = RX3 ∧ yX3_nearTo.cls ≠ "java/lang/invoke/MethodHandle" ∧ yX3_nearTo.cls ≠ "java/lang/invoke/VarHandle" ∧ (parseMethodDescriptor yX3_nearTo.desc).map (fun d => d.parameters.length) = some 1 := ⟨rfl, by decide +kernel, by decide +kernel, by decide +kernel⟩
set_option maxRecDepth 100000 in
set_option maxHeartbeats 1000000 in
theorem kX3_nearTo (l : Launch) (D : va_G) (cI cJ : ClassId) (nt aw ap an ae nn mm : Nat) (ne : Row) (k : Nat) (hk : k < 10) : Met l yX3_nearTo wsX3_nearTo rmX3_nearTo (rPre D cI cJ [.ref nt, .int (nI k)] [(nt, .inr (3, [.int (nI nn), .int (nI mm), .ref aw, .ref ap, .ref an, .ref ae])), (an, .inl (cI, 10, .inl ne))]) (qRI (ne k)) 0 0 nA := by
  refine startR (cc := cX3_nearTo) (maxL := 2) (ret := (some .int)) (by decide) rfl (Nat.le_of_ble_eq_true rfl) ?_
  intro p e s m args below meth c ls Q hQ hx hb hr hlocks hml hown hts hK hN hP hl hin
  have hown : s.vm.findClass RX3 = some m.cls := hown
  have hi_3 : ∀ w ∈ wsX30, w ∈ wsX3_nearTo := by decide +kernel
  have hf_18 := hts (.fieldLink RX3 18 "FireNets$Net" "near" "[I") (by decide +kernel)
  have hS : va_S nA s.heap s.heap [] := va_S.rf
  have hl : lv_has ls 2 [(0, .ref nt), (1, .int (nI k))] := hl
  have hP : va_P D vwCl [(nt, .inr (3, [.int (nI nn), .int (nI mm), .ref aw, .ref ap, .ref an, .ref ae])), (an, .inl (cI, 10, .inl ne))] s.heap := hP
  refine lv_iload_n hx hb dX3_nearTo_0 rfl (lv_at hl 1 rfl) ?_
  refine lv_if_lt (tgt := 10) hx hb dX3_nearTo_1 (by decide) (fun c_1 => ?_) (fun c_1 => ?_)
  · exact absurd c_1 (nI_pos (by omega))
  · refine lv_iload_n hx hb dX3_nearTo_4 rfl (lv_at hl 1 rfl) ?_
    refine lv_bipush (v := 10) hx hb dX3_nearTo_5 (by decide) ?_
    refine r_icmp_lt (tgt := 14) hx hb k 10 dX3_nearTo_7 (by decide) rfl rfl (by omega) (by omega) (fun c_7 => ?_) (fun c_7 => ?_)
    · refine lv_aload_n hx hb dX3_nearTo_14 rfl (lv_at hl 0 rfl) ?_
      refine va_get (D := D) (ci := 3) (v := .ref an) (C := RX3) (T := TX3) (N := 6) hx hb hts hi_3 hown hK hP 0 rfl rfl 4 (by decide) hf_18 (fun _ h9 => h9) rfl dX3_nearTo_15 ?_
      refine lv_iload_n hx hb dX3_nearTo_18 rfl (lv_at hl 1 rfl) ?_
      refine r_iald hx hb hK hP 1 rfl k rfl (by omega) (by omega) dX3_nearTo_19 ?_
      exact endRI hx hb hr hlocks hQ hS dX3_nearTo_20 rfl
    · exact absurd c_7 (by omega)
def rmX3_endsOf : Room := { frames := 0, cells := 0, slots := 0, locals := 0 }
theorem kdX3_endsOf : yX3_endsOf.cls = RX3 ∧ yX3_endsOf.cls ≠ "java/lang/invoke/MethodHandle" ∧ yX3_endsOf.cls ≠ "java/lang/invoke/VarHandle" ∧ (parseMethodDescriptor yX3_endsOf.desc).map (fun d => d.parameters.length) = some 1 := ⟨rfl, by decide +kernel, by decide +kernel, by decide +kernel⟩
set_option maxRecDepth 100000 in
set_option maxHeartbeats 1000000 in
theorem kX3_endsOf (l : Launch) (D : va_G) (cI cJ : ClassId) (nt aw ap an ae nn mm : Nat) (en : Row) (k : Nat) (hk : k < 24) : Met l yX3_endsOf wsX3_endsOf rmX3_endsOf (rPre D cI cJ [.ref nt, .int (nI k)] [(nt, .inr (3, [.int (nI nn), .int (nI mm), .ref aw, .ref ap, .ref an, .ref ae])), (ae, .inl (cI, 24, .inl en))]) (qRI (en k)) 0 0 nA := by
  refine startR (cc := cX3_endsOf) (maxL := 2) (ret := (some .int)) (by decide) rfl (Nat.le_of_ble_eq_true rfl) ?_
  intro p e s m args below meth c ls Q hQ hx hb hr hlocks hml hown hts hK hN hP hl hin
  have hown : s.vm.findClass RX3 = some m.cls := hown
  have hi_3 : ∀ w ∈ wsX30, w ∈ wsX3_endsOf := by decide +kernel
  have hf_21 := hts (.fieldLink RX3 21 "FireNets$Net" "ends" "[I") (by decide +kernel)
  have hS : va_S nA s.heap s.heap [] := va_S.rf
  have hl : lv_has ls 2 [(0, .ref nt), (1, .int (nI k))] := hl
  have hP : va_P D vwCl [(nt, .inr (3, [.int (nI nn), .int (nI mm), .ref aw, .ref ap, .ref an, .ref ae])), (ae, .inl (cI, 24, .inl en))] s.heap := hP
  refine lv_iload_n hx hb dX3_endsOf_0 rfl (lv_at hl 1 rfl) ?_
  refine lv_if_lt (tgt := 10) hx hb dX3_endsOf_1 (by decide) (fun c_1 => ?_) (fun c_1 => ?_)
  · exact absurd c_1 (nI_pos (by omega))
  · refine lv_iload_n hx hb dX3_endsOf_4 rfl (lv_at hl 1 rfl) ?_
    refine lv_bipush (v := 24) hx hb dX3_endsOf_5 (by decide) ?_
    refine r_icmp_lt (tgt := 14) hx hb k 24 dX3_endsOf_7 (by decide) rfl rfl (by omega) (by omega) (fun c_7 => ?_) (fun c_7 => ?_)
    · refine lv_aload_n hx hb dX3_endsOf_14 rfl (lv_at hl 0 rfl) ?_
      refine va_get (D := D) (ci := 3) (v := .ref ae) (C := RX3) (T := TX3) (N := 6) hx hb hts hi_3 hown hK hP 0 rfl rfl 5 (by decide) hf_21 (fun _ h9 => h9) rfl dX3_endsOf_15 ?_
      refine lv_iload_n hx hb dX3_endsOf_18 rfl (lv_at hl 1 rfl) ?_
      refine r_iald hx hb hK hP 1 rfl k rfl (by omega) (by omega) dX3_endsOf_19 ?_
      exact endRI hx hb hr hlocks hQ hS dX3_endsOf_20 rfl
    · exact absurd c_7 (by omega)
def rmX3_joined : Room := { frames := 1, cells := 0, slots := 0, locals := 21 }
theorem kdX3_joined : yX3_joined.cls = RX3 ∧ yX3_joined.cls ≠ "java/lang/invoke/MethodHandle" ∧ yX3_joined.cls ≠ "java/lang/invoke/VarHandle" ∧ (parseMethodDescriptor yX3_joined.desc).map (fun d => d.parameters.length) = some 2 := ⟨rfl, by decide +kernel, by decide +kernel, by decide +kernel⟩
set_option maxRecDepth 100000 in
set_option maxHeartbeats 1000000 in
theorem kX3_joined (l : Launch) (D : va_G) (cI cJ : ClassId) (nt aw ap an ae nn mm : Nat) (ne : Row) (k : Nat) (b : Int32) (hk : k < 10) : Met l yX3_joined wsX3_joined rmX3_joined (rPre D cI cJ [.ref nt, .int (nI k), .int b] [(nt, .inr (3, [.int (nI nn), .int (nI mm), .ref aw, .ref ap, .ref an, .ref ae])), (an, .inl (cI, 10, .inl ne))]) (qRI (zb (¬ bt (ne k) b = 0))) 0 0 nA := by
  refine startR (cc := cX3_joined) (maxL := 3) (ret := (some .boolean)) (by decide) rfl (Nat.le_of_ble_eq_true rfl) ?_
  intro p e s m args below meth c ls Q hQ hx hb hr hlocks hml hown hts hK hN hP hl hin
  have hown : s.vm.findClass RX3 = some m.cls := hown
  have hini_RX6 := hts (.initialized RX6) (by decide +kernel)
  have hst_X6_holds := hts (.static yX6_holds) (by decide +kernel)
  have hS : va_S nA s.heap s.heap [] := va_S.rf
  have hl : lv_has ls 3 [(0, .ref nt), (1, .int (nI k)), (2, .int b)] := hl
  have hP : va_P D vwCl [(nt, .inr (3, [.int (nI nn), .int (nI mm), .ref aw, .ref ap, .ref an, .ref ae])), (an, .inl (cI, 10, .inl ne))] s.heap := hP
  refine lv_aload_n hx hb dX3_joined_0 rfl (lv_at hl 0 rfl) ?_
  refine lv_iload_n hx hb dX3_joined_1 rfl (lv_at hl 1 rfl) ?_
  refine goRI hP hS (va_runV (As := [.int (nI k)]) (rest := []) ⟨hx, hb, hml, hown, hts⟩ (kX3_nearTo l D cI cJ nt aw ap an ae nn mm ne k (by omega)) (cwV 1 hts gX3_joined_X3_nearTo rfl rfl rfl kdX3_nearTo ⟨Nat.le_of_ble_eq_true rfl, Nat.le_of_ble_eq_true rfl⟩) (preRV hK hN hP 0 (ci := 3) rfl rfl rfl [0, 1] rfl) rfl rfl hl.1 rfl (lv_room (Nat.le_of_ble_eq_true rfl)) dX3_joined_2 ⟨Nat.zero_le _, Nat.zero_le _⟩) (fun H locs hP hS => ?_)
  refine lv_iload_n hx hb dX3_joined_5 rfl (lv_at hl 2 rfl) ?_
  refine goRI hP hS (va_runSN (As := [.int (ne k), .int b]) (rest := []) ⟨hx, hb, hml, hown, hts⟩ (kX6_holds l D cI cJ (ne k) b) ⟨va_cnB (host := "FireNets") 2 hts gX3_joined_X6_holds_n53 rfl rfl rfl (hN _ nwm_RX3_53) hini_RX6 kdX6_holds.2 ⟨Nat.le_of_ble_eq_true rfl, Nat.le_of_ble_eq_true rfl⟩, hst_X6_holds, trivial⟩ (preR hK hN hP [] rfl) rfl rfl hl.1 rfl (lv_room (Nat.le_of_ble_eq_true rfl)) dX3_joined_6 ⟨Nat.zero_le _, Nat.zero_le _⟩) (fun H locs hP hS => ?_)
  exact endRZ hx hb hr hlocks hQ hS dX3_joined_9 zb_nar rfl
def rmX3_sumOver : Room := { frames := 0, cells := 0, slots := 0, locals := 0 }
theorem kdX3_sumOver : yX3_sumOver.cls = RX3 ∧ yX3_sumOver.cls ≠ "java/lang/invoke/MethodHandle" ∧ yX3_sumOver.cls ≠ "java/lang/invoke/VarHandle" ∧ (parseMethodDescriptor yX3_sumOver.desc).map (fun d => d.parameters.length) = some 2 := ⟨rfl, by decide +kernel, by decide +kernel, by decide +kernel⟩
set_option maxRecDepth 100000 in
set_option maxHeartbeats 1000000 in
theorem kX3_sumOver (l : Launch) (D : va_G) (cI cJ : ClassId) (ar : Nat) (f : Row) (v : Int32)  : Met l yX3_sumOver wsX3_sumOver rmX3_sumOver (rPre D cI cJ [.ref ar, .int v] [(ar, .inl (cI, 10, .inl f))]) (qRI (sumI f v 10)) 0 0 nA := by
  refine startR (cc := cX3_sumOver) (maxL := 4) (ret := (some .int)) (by decide) rfl (Nat.le_of_ble_eq_true rfl) ?_
  intro p e s m args below meth c ls Q hQ hx hb hr hlocks hml hown hts hK hN hP hl hin
  have hown : s.vm.findClass RX3 = some m.cls := hown
  have hS : va_S nA s.heap s.heap [] := va_S.rf
  have hl : lv_has ls 4 [(0, .ref ar), (1, .int v)] := hl
  have hP : va_P D vwCl [(ar, .inl (cI, 10, .inl f))] s.heap := hP
  refine lv_iconst (v := 0) hx hb dX3_sumOver_0 (by decide) ?_
  refine lv_istore_n (lv' := [(2, .int 0), (0, .ref ar), (1, .int v)]) hx hb dX3_sumOver_1 rfl hl (by decide) rfl (fun ls hl => ?_)
  refine lv_iconst (v := 0) hx hb dX3_sumOver_2 (by decide) ?_
  refine lv_istore_n (lv' := [(3, .int 0), (2, .int 0), (0, .ref ar), (1, .int v)]) hx hb dX3_sumOver_3 rfl hl (by decide) rfl (fun ls hl => ?_)
  have lp : ∀ (fu : Nat) (k : Nat), (k ≤ 10) → 10 - k < fu → ∀ (ls : Array Slot) (H : Heap) (locs : List Loc), lv_has ls 4 [(0, .ref ar), (1, .int v), (2, .int (sumI f v k)), (3, .int (nI k))] → va_P D vwCl [(ar, .inl (cI, 10, .inl f))] H → va_S nA s.heap H locs → W p l e rmX3_sumOver s m args below meth c H locs 0 0 Q (F0 m 4 ls []) := by
    intro fu
    induction fu with
    | zero => intro k hk hf; exact absurd hf (Nat.not_lt_zero _)
    | succ fu ih_lp =>
      intro k hk hf ls H locs hl hP hS
      refine lv_iload_n hx hb dX3_sumOver_4 rfl (lv_at hl 3 rfl) ?_
      refine lv_aload_n hx hb dX3_sumOver_5 rfl (lv_at hl 0 rfl) ?_
      refine va_alen (v := nI 10) hx hb hK hP 0 0 rfl rfl rfl dX3_sumOver_6 ?_
      refine r_icmp_ge (tgt := 28) hx hb k 10 dX3_sumOver_7 (by decide) rfl rfl (by omega) (by omega) (fun c_7 => ?_) (fun c_7 => ?_)
      · refine lv_iload_n hx hb dX3_sumOver_28 rfl (lv_at hl 2 rfl) ?_
        exact endRI hx hb hr hlocks hQ hS dX3_sumOver_29 (by rw [show k = 10 by omega])
      · refine lv_iload_n hx hb dX3_sumOver_10 rfl (lv_at hl 2 rfl) ?_
        refine lv_aload_n hx hb dX3_sumOver_11 rfl (lv_at hl 0 rfl) ?_
        refine lv_iload_n hx hb dX3_sumOver_12 rfl (lv_at hl 3 rfl) ?_
        refine r_iald hx hb hK hP 0 rfl k rfl (by omega) (by omega) dX3_sumOver_13 ?_
        refine lv_iload_n hx hb dX3_sumOver_14 rfl (lv_at hl 1 rfl) ?_
        refine lv_iload_n hx hb dX3_sumOver_15 rfl (lv_at hl 3 rfl) ?_
        refine lv_ishr hx hb dX3_sumOver_16 ?_
        refine lv_iconst (v := 1) hx hb dX3_sumOver_17 (by decide) ?_
        refine lv_iand hx hb dX3_sumOver_18 ?_
        refine lv_imul hx hb dX3_sumOver_19 ?_
        refine lv_iadd hx hb dX3_sumOver_20 ?_
        refine lv_istore_n (lv' := [(2, .int ((sumI f v k) + ((f k) * ((v >>> ((nI k) &&& 31)) &&& 1)))), (0, .ref ar), (1, .int v), (3, .int (nI k))]) hx hb dX3_sumOver_21 rfl hl (by decide) rfl (fun ls hl => ?_)
        refine r_iinc (lv' := [(3, .int (nI (k + 1))), (2, .int ((sumI f v k) + ((f k) * ((v >>> ((nI k) &&& 31)) &&& 1)))), (0, .ref ar), (1, .int v)]) hx hb 3 k dX3_sumOver_22 hl rfl (by decide) rfl (fun ls hl => ?_)
        refine lv_goto (tgt := 4) hx hb dX3_sumOver_25 (by decide) ?_
        exact ih_lp (k + 1) (by omega) (by omega) ls _ _ (lv_sub hl [2, 3, 1, 0] rfl) hP hS
  exact lp _ 0 (by omega) (Nat.lt_succ_self _) ls _ _ (lv_sub hl [2, 3, 1, 0] rfl) hP hS
def rmX3_worthOf : Room := { frames := 1, cells := 0, slots := 0, locals := 23 }
theorem kdX3_worthOf : yX3_worthOf.cls = RX3 ∧ yX3_worthOf.cls ≠ "java/lang/invoke/MethodHandle" ∧ yX3_worthOf.cls ≠ "java/lang/invoke/VarHandle" ∧ (parseMethodDescriptor yX3_worthOf.desc).map (fun d => d.parameters.length) = some 1 := ⟨rfl, by decide +kernel, by decide +kernel, by decide +kernel⟩
set_option maxRecDepth 100000 in
set_option maxHeartbeats 1000000 in
theorem kX3_worthOf (l : Launch) (D : va_G) (cI cJ : ClassId) (nt aw ap an ae nn mm : Nat) (wo : Row) (v : Int32)  : Met l yX3_worthOf wsX3_worthOf rmX3_worthOf (rPre D cI cJ [.ref nt, .int v] [(nt, .inr (3, [.int (nI nn), .int (nI mm), .ref aw, .ref ap, .ref an, .ref ae])), (aw, .inl (cI, 10, .inl wo))]) (qRI (sumI wo v 10)) 0 0 nA := by
  refine startR (cc := cX3_worthOf) (maxL := 2) (ret := (some .int)) (by decide) rfl (Nat.le_of_ble_eq_true rfl) ?_
  intro p e s m args below meth c ls Q hQ hx hb hr hlocks hml hown hts hK hN hP hl hin
  have hown : s.vm.findClass RX3 = some m.cls := hown
  have hi_3 : ∀ w ∈ wsX30, w ∈ wsX3_worthOf := by decide +kernel
  have hf_9 := hts (.fieldLink RX3 9 "FireNets$Net" "worth" "[I") (by decide +kernel)
  have hS : va_S nA s.heap s.heap [] := va_S.rf
  have hl : lv_has ls 2 [(0, .ref nt), (1, .int v)] := hl
  have hP : va_P D vwCl [(nt, .inr (3, [.int (nI nn), .int (nI mm), .ref aw, .ref ap, .ref an, .ref ae])), (aw, .inl (cI, 10, .inl wo))] s.heap := hP
  refine lv_aload_n hx hb dX3_worthOf_0 rfl (lv_at hl 0 rfl) ?_
  refine va_get (D := D) (ci := 3) (v := .ref aw) (C := RX3) (T := TX3) (N := 6) hx hb hts hi_3 hown hK hP 0 rfl rfl 2 (by decide) hf_9 (fun _ h9 => h9) rfl dX3_worthOf_1 ?_
  refine lv_iload_n hx hb dX3_worthOf_4 rfl (lv_at hl 1 rfl) ?_
  refine goRI hP hS (va_runS (As := [.ref aw, .int v]) (rest := []) ⟨hx, hb, hml, hown, hts⟩ (kX3_sumOver l D cI cJ aw wo v) (va_cwS 2 hts gX3_worthOf_X3_sumOver rfl rfl rfl kdX3_sumOver.2 ⟨Nat.le_of_ble_eq_true rfl, Nat.le_of_ble_eq_true rfl⟩) (preR hK hN hP [1] rfl) rfl rfl hl.1 rfl (lv_room (Nat.le_of_ble_eq_true rfl)) dX3_worthOf_5 ⟨Nat.zero_le _, Nat.zero_le _⟩) (fun H locs hP hS => ?_)
  exact endRI hx hb hr hlocks hQ hS dX3_worthOf_8 rfl
def rmX3_priceOf : Room := { frames := 1, cells := 0, slots := 0, locals := 23 }
theorem kdX3_priceOf : yX3_priceOf.cls = RX3 ∧ yX3_priceOf.cls ≠ "java/lang/invoke/MethodHandle" ∧ yX3_priceOf.cls ≠ "java/lang/invoke/VarHandle" ∧ (parseMethodDescriptor yX3_priceOf.desc).map (fun d => d.parameters.length) = some 1 := ⟨rfl, by decide +kernel, by decide +kernel, by decide +kernel⟩
set_option maxRecDepth 100000 in
set_option maxHeartbeats 1000000 in
theorem kX3_priceOf (l : Launch) (D : va_G) (cI cJ : ClassId) (nt aw ap an ae nn mm : Nat) (pr : Row) (v : Int32)  : Met l yX3_priceOf wsX3_priceOf rmX3_priceOf (rPre D cI cJ [.ref nt, .int v] [(nt, .inr (3, [.int (nI nn), .int (nI mm), .ref aw, .ref ap, .ref an, .ref ae])), (ap, .inl (cI, 10, .inl pr))]) (qRI (sumI pr v 10)) 0 0 nA := by
  refine startR (cc := cX3_priceOf) (maxL := 2) (ret := (some .int)) (by decide) rfl (Nat.le_of_ble_eq_true rfl) ?_
  intro p e s m args below meth c ls Q hQ hx hb hr hlocks hml hown hts hK hN hP hl hin
  have hown : s.vm.findClass RX3 = some m.cls := hown
  have hi_3 : ∀ w ∈ wsX30, w ∈ wsX3_priceOf := by decide +kernel
  have hf_15 := hts (.fieldLink RX3 15 "FireNets$Net" "price" "[I") (by decide +kernel)
  have hS : va_S nA s.heap s.heap [] := va_S.rf
  have hl : lv_has ls 2 [(0, .ref nt), (1, .int v)] := hl
  have hP : va_P D vwCl [(nt, .inr (3, [.int (nI nn), .int (nI mm), .ref aw, .ref ap, .ref an, .ref ae])), (ap, .inl (cI, 10, .inl pr))] s.heap := hP
  refine lv_aload_n hx hb dX3_priceOf_0 rfl (lv_at hl 0 rfl) ?_
  refine va_get (D := D) (ci := 3) (v := .ref ap) (C := RX3) (T := TX3) (N := 6) hx hb hts hi_3 hown hK hP 0 rfl rfl 3 (by decide) hf_15 (fun _ h9 => h9) rfl dX3_priceOf_1 ?_
  refine lv_iload_n hx hb dX3_priceOf_4 rfl (lv_at hl 1 rfl) ?_
  refine goRI hP hS (va_runS (As := [.ref ap, .int v]) (rest := []) ⟨hx, hb, hml, hown, hts⟩ (kX3_sumOver l D cI cJ ap pr v) (va_cwS 2 hts gX3_priceOf_X3_sumOver rfl rfl rfl kdX3_sumOver.2 ⟨Nat.le_of_ble_eq_true rfl, Nat.le_of_ble_eq_true rfl⟩) (preR hK hN hP [1] rfl) rfl rfl hl.1 rfl (lv_room (Nat.le_of_ble_eq_true rfl)) dX3_priceOf_5 ⟨Nat.zero_le _, Nat.zero_le _⟩) (fun H locs hP hS => ?_)
  exact endRI hx hb hr hlocks hQ hS dX3_priceOf_8 rfl
def rmX3_savedFrom : Room := { frames := 1, cells := 0, slots := 0, locals := 23 }
theorem kdX3_savedFrom : yX3_savedFrom.cls = RX3 ∧ yX3_savedFrom.cls ≠ "java/lang/invoke/MethodHandle" ∧ yX3_savedFrom.cls ≠ "java/lang/invoke/VarHandle" ∧ (parseMethodDescriptor yX3_savedFrom.desc).map (fun d => d.parameters.length) = some 1 := ⟨rfl, by decide +kernel, by decide +kernel, by decide +kernel⟩
set_option maxRecDepth 100000 in
set_option maxHeartbeats 1000000 in
theorem kX3_savedFrom (l : Launch) (D : va_G) (cI cJ : ClassId) (nt aw ap an ae nn mm : Nat) (wo : Row) (v : Int32)  : Met l yX3_savedFrom wsX3_savedFrom rmX3_savedFrom (rPre D cI cJ [.ref nt, .int v] [(nt, .inr (3, [.int (nI nn), .int (nI mm), .ref aw, .ref ap, .ref an, .ref ae])), (aw, .inl (cI, 10, .inl wo))]) (qRI (savedI (nI nn) wo v)) 0 0 nA := by
  refine startR (cc := cX3_savedFrom) (maxL := 2) (ret := (some .int)) (by decide) rfl (Nat.le_of_ble_eq_true rfl) ?_
  intro p e s m args below meth c ls Q hQ hx hb hr hlocks hml hown hts hK hN hP hl hin
  have hown : s.vm.findClass RX3 = some m.cls := hown
  have hi_3 : ∀ w ∈ wsX30, w ∈ wsX3_savedFrom := by decide +kernel
  have hf_9 := hts (.fieldLink RX3 9 "FireNets$Net" "worth" "[I") (by decide +kernel)
  have hS : va_S nA s.heap s.heap [] := va_S.rf
  have hl : lv_has ls 2 [(0, .ref nt), (1, .int v)] := hl
  have hP : va_P D vwCl [(nt, .inr (3, [.int (nI nn), .int (nI mm), .ref aw, .ref ap, .ref an, .ref ae])), (aw, .inl (cI, 10, .inl wo))] s.heap := hP
  refine lv_aload_n hx hb dX3_savedFrom_0 rfl (lv_at hl 0 rfl) ?_
  refine va_get (D := D) (ci := 3) (v := .ref aw) (C := RX3) (T := TX3) (N := 6) hx hb hts hi_3 hown hK hP 0 rfl rfl 2 (by decide) hf_9 (fun _ h9 => h9) rfl dX3_savedFrom_1 ?_
  refine lv_aload_n hx hb dX3_savedFrom_4 rfl (lv_at hl 0 rfl) ?_
  refine goRI hP hS (va_runV (As := []) (rest := [.ref aw]) ⟨hx, hb, hml, hown, hts⟩ (kX3_all l D cI cJ nt aw ap an ae nn mm) (cwV 0 hts gX3_savedFrom_X3_all rfl rfl rfl kdX3_all ⟨Nat.le_of_ble_eq_true rfl, Nat.le_of_ble_eq_true rfl⟩) (preRV hK hN hP 0 (ci := 3) rfl rfl rfl [0] rfl) rfl rfl hl.1 rfl (lv_room (Nat.le_of_ble_eq_true rfl)) dX3_savedFrom_5 ⟨Nat.zero_le _, Nat.zero_le _⟩) (fun H locs hP hS => ?_)
  refine lv_iload_n hx hb dX3_savedFrom_8 rfl (lv_at hl 1 rfl) ?_
  refine lv_iconst (v := (-1)) hx hb dX3_savedFrom_9 (by decide) ?_
  refine lv_ixor hx hb dX3_savedFrom_10 ?_
  refine lv_iand hx hb dX3_savedFrom_11 ?_
  refine goRI hP hS (va_runS (As := [.ref aw, .int ((allI (nI nn)) &&& (v ^^^ (-1)))]) (rest := []) ⟨hx, hb, hml, hown, hts⟩ (kX3_sumOver l D cI cJ aw wo ((allI (nI nn)) &&& (v ^^^ (-1)))) (va_cwS 2 hts gX3_savedFrom_X3_sumOver rfl rfl rfl kdX3_sumOver.2 ⟨Nat.le_of_ble_eq_true rfl, Nat.le_of_ble_eq_true rfl⟩) (preR hK hN hP [1] rfl) rfl rfl hl.1 rfl (lv_room (Nat.le_of_ble_eq_true rfl)) dX3_savedFrom_12 ⟨Nat.zero_le _, Nat.zero_le _⟩) (fun H locs hP hS => ?_)
  exact endRI hx hb hr hlocks hQ hS dX3_savedFrom_15 rfl
def rmX3_threatened : Room := { frames := 1, cells := 0, slots := 0, locals := 21 }
theorem kdX3_threatened : yX3_threatened.cls = RX3 ∧ yX3_threatened.cls ≠ "java/lang/invoke/MethodHandle" ∧ yX3_threatened.cls ≠ "java/lang/invoke/VarHandle" ∧ (parseMethodDescriptor yX3_threatened.desc).map (fun d => d.parameters.length) = some 2 := ⟨rfl, by decide +kernel, by decide +kernel, by decide +kernel⟩
set_option maxRecDepth 100000 in
set_option maxHeartbeats 1000000 in
theorem kX3_threatened (l : Launch) (D : va_G) (cI cJ : ClassId) (nt aw ap an ae nn mm : Nat) (ne : Row) (bu gu : Int32)  : Met l yX3_threatened wsX3_threatened rmX3_threatened (rPre D cI cJ [.ref nt, .int bu, .int gu] [(nt, .inr (3, [.int (nI nn), .int (nI mm), .ref aw, .ref ap, .ref an, .ref ae])), (an, .inl (cI, 10, .inl ne))]) (qRI (thr ne bu gu)) 0 0 nA := by
  refine startR (cc := cX3_threatened) (maxL := 5) (ret := (some .int)) (by decide) rfl (Nat.le_of_ble_eq_true rfl) ?_
  intro p e s m args below meth c ls Q hQ hx hb hr hlocks hml hown hts hK hN hP hl hin
  have hown : s.vm.findClass RX3 = some m.cls := hown
  have hi_3 : ∀ w ∈ wsX30, w ∈ wsX3_threatened := by decide +kernel
  have hf_18 := hts (.fieldLink RX3 18 "FireNets$Net" "near" "[I") (by decide +kernel)
  have hini_RX6 := hts (.initialized RX6) (by decide +kernel)
  have hst_X6_holds := hts (.static yX6_holds) (by decide +kernel)
  have hS : va_S nA s.heap s.heap [] := va_S.rf
  have hl : lv_has ls 5 [(0, .ref nt), (1, .int bu), (2, .int gu)] := hl
  have hP : va_P D vwCl [(nt, .inr (3, [.int (nI nn), .int (nI mm), .ref aw, .ref ap, .ref an, .ref ae])), (an, .inl (cI, 10, .inl ne))] s.heap := hP
  refine lv_iconst (v := 0) hx hb dX3_threatened_0 (by decide) ?_
  refine lv_istore_n (lv' := [(3, .int 0), (0, .ref nt), (1, .int bu), (2, .int gu)]) hx hb dX3_threatened_1 rfl hl (by decide) rfl (fun ls hl => ?_)
  refine lv_iconst (v := 0) hx hb dX3_threatened_2 (by decide) ?_
  refine lv_istore (lv' := [(4, .int 0), (3, .int 0), (0, .ref nt), (1, .int bu), (2, .int gu)]) hx hb dX3_threatened_3 hl (by decide) rfl (fun ls hl => ?_)
  have lp : ∀ (fu : Nat) (k : Nat), (k ≤ 10) → 10 - k < fu → ∀ (ls : Array Slot) (H : Heap) (locs : List Loc), lv_has ls 5 [(0, .ref nt), (1, .int bu), (2, .int gu), (3, .int (thrA ne bu k)), (4, .int (nI k))] → va_P D vwCl [(nt, .inr (3, [.int (nI nn), .int (nI mm), .ref aw, .ref ap, .ref an, .ref ae])), (an, .inl (cI, 10, .inl ne))] H → va_S nA s.heap H locs → W p l e rmX3_threatened s m args below meth c H locs 0 0 Q (F0 m 5 ls []) := by
    intro fu
    induction fu with
    | zero => intro k hk hf; exact absurd hf (Nat.not_lt_zero _)
    | succ fu ih_lp =>
      intro k hk hf ls H locs hl hP hS
      refine lv_iload hx hb dX3_threatened_5 (lv_at hl 4 rfl) ?_
      refine lv_bipush (v := 10) hx hb dX3_threatened_7 (by decide) ?_
      refine r_icmp_ge (tgt := 37) hx hb k 10 dX3_threatened_9 (by decide) rfl rfl (by omega) (by omega) (fun c_9 => ?_) (fun c_9 => ?_)
      · refine lv_iload_n hx hb dX3_threatened_37 rfl (lv_at hl 3 rfl) ?_
        refine lv_iload_n hx hb dX3_threatened_38 rfl (lv_at hl 1 rfl) ?_
        refine lv_iconst (v := (-1)) hx hb dX3_threatened_39 (by decide) ?_
        refine lv_ixor hx hb dX3_threatened_40 ?_
        refine lv_iand hx hb dX3_threatened_41 ?_
        refine lv_iload_n hx hb dX3_threatened_42 rfl (lv_at hl 2 rfl) ?_
        refine lv_iconst (v := (-1)) hx hb dX3_threatened_43 (by decide) ?_
        refine lv_ixor hx hb dX3_threatened_44 ?_
        refine lv_iand hx hb dX3_threatened_45 ?_
        exact endRI hx hb hr hlocks hQ hS dX3_threatened_46 (by rw [show k = 10 by omega]; rfl)
      · refine lv_iload_n hx hb dX3_threatened_12 rfl (lv_at hl 1 rfl) ?_
        refine lv_iload hx hb dX3_threatened_13 (lv_at hl 4 rfl) ?_
        refine goRI hP hS (va_runSN (As := [.int bu, .int (nI k)]) (rest := []) ⟨hx, hb, hml, hown, hts⟩ (kX6_holds l D cI cJ bu (nI k)) ⟨va_cnB (host := "FireNets") 2 hts gX3_threatened_X6_holds_n53 rfl rfl rfl (hN _ nwm_RX3_53) hini_RX6 kdX6_holds.2 ⟨Nat.le_of_ble_eq_true rfl, Nat.le_of_ble_eq_true rfl⟩, hst_X6_holds, trivial⟩ (preR hK hN hP [] rfl) rfl rfl hl.1 rfl (lv_room (Nat.le_of_ble_eq_true rfl)) dX3_threatened_15 ⟨Nat.zero_le _, Nat.zero_le _⟩) (fun H locs hP hS => ?_)
        refine r_zeq (tgt := 31) hx hb dX3_threatened_18 (by decide) (fun c_18 => ?_) (fun c_18 => ?_)
        · refine r_iinc (lv' := [(4, .int (nI (k + 1))), (0, .ref nt), (1, .int bu), (2, .int gu), (3, .int (thrA ne bu k))]) hx hb 4 k dX3_threatened_31 hl rfl (by decide) rfl (fun ls hl => ?_)
          refine lv_goto (tgt := 5) hx hb dX3_threatened_34 (by decide) ?_
          exact ih_lp (k + 1) (by omega) (by omega) ls _ _ (by rw [thrA, if_neg c_18]; exact lv_sub hl [1, 2, 3, 4, 0] rfl) hP hS
        · refine lv_iload_n hx hb dX3_threatened_21 rfl (lv_at hl 3 rfl) ?_
          refine lv_aload_n hx hb dX3_threatened_22 rfl (lv_at hl 0 rfl) ?_
          refine va_get (D := D) (ci := 3) (v := .ref an) (C := RX3) (T := TX3) (N := 6) hx hb hts hi_3 hown hK hP 0 rfl rfl 4 (by decide) hf_18 (fun _ h9 => h9) rfl dX3_threatened_23 ?_
          refine lv_iload hx hb dX3_threatened_26 (lv_at hl 4 rfl) ?_
          refine r_iald hx hb hK hP 1 rfl k rfl (by omega) (by omega) dX3_threatened_28 ?_
          refine lv_ior hx hb dX3_threatened_29 ?_
          refine lv_istore_n (lv' := [(3, .int ((thrA ne bu k) ||| (ne k))), (0, .ref nt), (1, .int bu), (2, .int gu), (4, .int (nI k))]) hx hb dX3_threatened_30 rfl hl (by decide) rfl (fun ls hl => ?_)
          refine r_iinc (lv' := [(4, .int (nI (k + 1))), (3, .int ((thrA ne bu k) ||| (ne k))), (0, .ref nt), (1, .int bu), (2, .int gu)]) hx hb 4 k dX3_threatened_31 hl rfl (by decide) rfl (fun ls hl => ?_)
          refine lv_goto (tgt := 5) hx hb dX3_threatened_34 (by decide) ?_
          exact ih_lp (k + 1) (by omega) (by omega) ls _ _ (by rw [thrA, if_pos c_18]; exact lv_sub hl [2, 3, 4, 1, 0] rfl) hP hS
  exact lp _ 0 (by omega) (Nat.lt_succ_self _) ls _ _ (lv_sub hl [2, 3, 4, 1, 0] rfl) hP hS
def rmX3_isLawful : Room := { frames := 2, cells := 0, slots := 0, locals := 44 }
theorem kdX3_isLawful : yX3_isLawful.cls = RX3 ∧ yX3_isLawful.cls ≠ "java/lang/invoke/MethodHandle" ∧ yX3_isLawful.cls ≠ "java/lang/invoke/VarHandle" ∧ (parseMethodDescriptor yX3_isLawful.desc).map (fun d => d.parameters.length) = some 4 := ⟨rfl, by decide +kernel, by decide +kernel, by decide +kernel⟩
set_option maxRecDepth 100000 in
set_option maxHeartbeats 1000000 in
theorem kX3_isLawful (l : Launch) (D : va_G) (cI cJ : ClassId) (nt aw ap an ae nn mm : Nat) (pr : Row) (v bu gu mo : Int32)  : Met l yX3_isLawful wsX3_isLawful rmX3_isLawful (rPre D cI cJ [.ref nt, .int v, .int bu, .int gu, .int mo] [(nt, .inr (3, [.int (nI nn), .int (nI mm), .ref aw, .ref ap, .ref an, .ref ae])), (ap, .inl (cI, 10, .inl pr))]) (qRI (zb (v &&& (freeI (nI nn) bu gu ^^^ (-1)) = 0 ∧ sumI pr v 10 ≤ mo))) 0 0 nA := by
  refine startR (cc := cX3_isLawful) (maxL := 6) (ret := (some .boolean)) (by decide) rfl (Nat.le_of_ble_eq_true rfl) ?_
  intro p e s m args below meth c ls Q hQ hx hb hr hlocks hml hown hts hK hN hP hl hin
  have hown : s.vm.findClass RX3 = some m.cls := hown
  have hS : va_S nA s.heap s.heap [] := va_S.rf
  have hl : lv_has ls 6 [(0, .ref nt), (1, .int v), (2, .int bu), (3, .int gu), (4, .int mo)] := hl
  have hP : va_P D vwCl [(nt, .inr (3, [.int (nI nn), .int (nI mm), .ref aw, .ref ap, .ref an, .ref ae])), (ap, .inl (cI, 10, .inl pr))] s.heap := hP
  refine lv_aload_n hx hb dX3_isLawful_0 rfl (lv_at hl 0 rfl) ?_
  refine goRI hP hS (va_runV (As := []) (rest := []) ⟨hx, hb, hml, hown, hts⟩ (kX3_all l D cI cJ nt aw ap an ae nn mm) (cwV 0 hts gX3_isLawful_X3_all rfl rfl rfl kdX3_all ⟨Nat.le_of_ble_eq_true rfl, Nat.le_of_ble_eq_true rfl⟩) (preRV hK hN hP 0 (ci := 3) rfl rfl rfl [0] rfl) rfl rfl hl.1 rfl (lv_room (Nat.le_of_ble_eq_true rfl)) dX3_isLawful_1 ⟨Nat.zero_le _, Nat.zero_le _⟩) (fun H locs hP hS => ?_)
  refine lv_iload_n hx hb dX3_isLawful_4 rfl (lv_at hl 2 rfl) ?_
  refine lv_iconst (v := (-1)) hx hb dX3_isLawful_5 (by decide) ?_
  refine lv_ixor hx hb dX3_isLawful_6 ?_
  refine lv_iand hx hb dX3_isLawful_7 ?_
  refine lv_iload_n hx hb dX3_isLawful_8 rfl (lv_at hl 3 rfl) ?_
  refine lv_iconst (v := (-1)) hx hb dX3_isLawful_9 (by decide) ?_
  refine lv_ixor hx hb dX3_isLawful_10 ?_
  refine lv_iand hx hb dX3_isLawful_11 ?_
  refine lv_istore (lv' := [(5, .int (((allI (nI nn)) &&& (bu ^^^ (-1))) &&& (gu ^^^ (-1)))), (0, .ref nt), (1, .int v), (2, .int bu), (3, .int gu), (4, .int mo)]) hx hb dX3_isLawful_12 hl (by decide) rfl (fun ls hl => ?_)
  refine lv_iload_n hx hb dX3_isLawful_14 rfl (lv_at hl 2 rfl) ?_
  refine lv_iload hx hb dX3_isLawful_15 (lv_at hl 0 rfl) ?_
  refine lv_iconst (v := (-1)) hx hb dX3_isLawful_17 (by decide) ?_
  refine lv_ixor hx hb dX3_isLawful_18 ?_
  refine lv_iand hx hb dX3_isLawful_19 ?_
  refine lv_if_ne (tgt := 37) hx hb dX3_isLawful_20 (by decide) (fun c_20 => ?_) (fun c_20 => ?_)
  · refine lv_iconst (v := 0) hx hb dX3_isLawful_37 (by decide) ?_
    exact endRZ hx hb hr hlocks hQ hS dX3_isLawful_38 rfl (zb_f (fun h => c_20 h.1))
  · refine lv_aload_n hx hb dX3_isLawful_23 rfl (lv_at hl 1 rfl) ?_
    refine lv_iload_n hx hb dX3_isLawful_24 rfl (lv_at hl 2 rfl) ?_
    refine goRI hP hS (va_runV (As := [.int v]) (rest := []) ⟨hx, hb, hml, hown, hts⟩ (kX3_priceOf l D cI cJ nt aw ap an ae nn mm pr v) (cwV 1 hts gX3_isLawful_X3_priceOf rfl rfl rfl kdX3_priceOf ⟨Nat.le_of_ble_eq_true rfl, Nat.le_of_ble_eq_true rfl⟩) (preRV hK hN hP 0 (ci := 3) rfl rfl rfl [0, 1] rfl) rfl rfl hl.1 rfl (lv_room (Nat.le_of_ble_eq_true rfl)) dX3_isLawful_25 ⟨Nat.zero_le _, Nat.zero_le _⟩) (fun H locs hP hS => ?_)
    refine lv_iload hx hb dX3_isLawful_28 (lv_at hl 5 rfl) ?_
    refine lv_icmp_gt (tgt := 37) hx hb dX3_isLawful_30 (by decide) (fun c_30 => ?_) (fun c_30 => ?_)
    · refine lv_iconst (v := 0) hx hb dX3_isLawful_37 (by decide) ?_
      exact endRZ hx hb hr hlocks hQ hS dX3_isLawful_38 rfl (zb_f (fun h => i_nle c_30 h.2))
    · refine lv_iconst (v := 1) hx hb dX3_isLawful_33 (by decide) ?_
      refine lv_goto (tgt := 38) hx hb dX3_isLawful_34 (by decide) ?_
      exact endRZ hx hb hr hlocks hQ hS dX3_isLawful_38 rfl (zb_t ⟨c_20, i_lt c_30⟩)
def rmX3_rankOf : Room := { frames := 1, cells := 0, slots := 0, locals := 20 }
theorem kdX3_rankOf : yX3_rankOf.cls = RX3 ∧ yX3_rankOf.cls ≠ "java/lang/invoke/MethodHandle" ∧ yX3_rankOf.cls ≠ "java/lang/invoke/VarHandle" ∧ (parseMethodDescriptor yX3_rankOf.desc).map (fun d => d.parameters.length) = some 3 := ⟨rfl, by decide +kernel, by decide +kernel, by decide +kernel⟩
set_option maxRecDepth 100000 in
set_option maxHeartbeats 1000000 in
theorem kX3_rankOf (l : Launch) (D : va_G) (cI cJ : ClassId) (nt aw ap an ae nn mm : Nat) (wo ne : Row) (k : Nat) (ru ta : Int32) (hk : k < 10) : Met l yX3_rankOf wsX3_rankOf rmX3_rankOf (rPre D cI cJ [.ref nt, .int (nI k), .int ru, .int ta] [(nt, .inr (3, [.int (nI nn), .int (nI mm), .ref aw, .ref ap, .ref an, .ref ae])), (aw, .inl (cI, 10, .inl wo)), (an, .inl (cI, 10, .inl ne))]) (qRI (rankI wo ne ru ta k)) 0 0 nA := by
  refine startR (cc := cX3_rankOf) (maxL := 4) (ret := (some .int)) (by decide) rfl (Nat.le_of_ble_eq_true rfl) ?_
  intro p e s m args below meth c ls Q hQ hx hb hr hlocks hml hown hts hK hN hP hl hin
  have hown : s.vm.findClass RX3 = some m.cls := hown
  have hi_3 : ∀ w ∈ wsX30, w ∈ wsX3_rankOf := by decide +kernel
  have hf_9 := hts (.fieldLink RX3 9 "FireNets$Net" "worth" "[I") (by decide +kernel)
  have hf_18 := hts (.fieldLink RX3 18 "FireNets$Net" "near" "[I") (by decide +kernel)
  have hS : va_S nA s.heap s.heap [] := va_S.rf
  have hl : lv_has ls 4 [(0, .ref nt), (1, .int (nI k)), (2, .int ru), (3, .int ta)] := hl
  have hP : va_P D vwCl [(nt, .inr (3, [.int (nI nn), .int (nI mm), .ref aw, .ref ap, .ref an, .ref ae])), (aw, .inl (cI, 10, .inl wo)), (an, .inl (cI, 10, .inl ne))] s.heap := hP
  refine lv_iload_n hx hb dX3_rankOf_0 rfl (lv_at hl 1 rfl) ?_
  refine lv_if_lt (tgt := 10) hx hb dX3_rankOf_1 (by decide) (fun c_1 => ?_) (fun c_1 => ?_)
  · exact absurd c_1 (nI_pos (by omega))
  · refine lv_iload_n hx hb dX3_rankOf_4 rfl (lv_at hl 1 rfl) ?_
    refine lv_bipush (v := 10) hx hb dX3_rankOf_5 (by decide) ?_
    refine r_icmp_lt (tgt := 12) hx hb k 10 dX3_rankOf_7 (by decide) rfl rfl (by omega) (by omega) (fun c_7 => ?_) (fun c_7 => ?_)
    · refine lv_iload_n hx hb dX3_rankOf_12 rfl (lv_at hl 2 rfl) ?_
      by_cases c_13_1 : ru = 1
      · refine lv_lookup (off := 27) (tgt := 40) hx hb dX3_rankOf_13 (by decide) (by rw [c_13_1]; rfl) (by decide) ?_
        refine lv_aload_n hx hb dX3_rankOf_40 rfl (lv_at hl 0 rfl) ?_
        refine va_get (D := D) (ci := 3) (v := .ref aw) (C := RX3) (T := TX3) (N := 6) hx hb hts hi_3 hown hK hP 0 rfl rfl 2 (by decide) hf_9 (fun _ h9 => h9) rfl dX3_rankOf_41 ?_
        refine lv_iload_n hx hb dX3_rankOf_44 rfl (lv_at hl 1 rfl) ?_
        refine r_iald hx hb hK hP 1 rfl k rfl (by omega) (by omega) dX3_rankOf_45 ?_
        exact endRI hx hb hr hlocks hQ hS dX3_rankOf_46 (by rw [rankI, if_pos c_13_1])
      · skip
        by_cases c_13_2 : ru = 2
        · refine lv_lookup (off := 34) (tgt := 47) hx hb dX3_rankOf_13 (by decide) (by rw [c_13_2]; rfl) (by decide) ?_
          refine lv_aload_n hx hb dX3_rankOf_47 rfl (lv_at hl 0 rfl) ?_
          refine va_get (D := D) (ci := 3) (v := .ref an) (C := RX3) (T := TX3) (N := 6) hx hb hts hi_3 hown hK hP 0 rfl rfl 4 (by decide) hf_18 (fun _ h9 => h9) rfl dX3_rankOf_48 ?_
          refine lv_iload_n hx hb dX3_rankOf_51 rfl (lv_at hl 1 rfl) ?_
          refine r_iald hx hb hK hP 2 rfl k rfl (by omega) (by omega) dX3_rankOf_52 ?_
          refine lv_iload_n hx hb dX3_rankOf_53 rfl (lv_at hl 3 rfl) ?_
          refine lv_iconst (v := (-1)) hx hb dX3_rankOf_54 (by decide) ?_
          refine lv_ixor hx hb dX3_rankOf_55 ?_
          refine lv_iand hx hb dX3_rankOf_56 ?_
          refine goRI hP hS (va_runS (As := [.int ((ne k) &&& (ta ^^^ (-1)))]) (rest := []) ⟨hx, hb, hml, hown, hts⟩ (kJ6_bitCount_0f7a4 l D cI cJ ((ne k) &&& (ta ^^^ (-1)))) (va_cwS 1 hts gX3_rankOf_J6_bitCount_0f7a4 rfl rfl rfl kdJ6_bitCount_0f7a4.2 ⟨Nat.le_of_ble_eq_true rfl, Nat.le_of_ble_eq_true rfl⟩) (preR hK hN hP [] rfl) rfl rfl hl.1 rfl (lv_room (Nat.le_of_ble_eq_true rfl)) dX3_rankOf_57 ⟨Nat.zero_le _, Nat.zero_le _⟩) (fun H locs hP hS => ?_)
          exact endRI hx hb hr hlocks hQ hS dX3_rankOf_60 (by rw [rankI, if_neg c_13_1, if_pos c_13_2])
        · skip
          refine lv_lookup (off := 48) (tgt := 61) hx hb dX3_rankOf_13 (by decide) ((lv_osw c_13_1 (by decide)).trans ((lv_osw c_13_2 (by decide)).trans (rfl))) (by decide) ?_
          refine lv_iconst (v := 0) hx hb dX3_rankOf_61 (by decide) ?_
          exact endRI hx hb hr hlocks hQ hS dX3_rankOf_62 (by rw [rankI, if_neg c_13_1, if_neg c_13_2])
    · exact absurd c_7 (by omega)
def rmX3_pick : Room := { frames := 2, cells := 0, slots := 0, locals := 45 }
theorem kdX3_pick : yX3_pick.cls = RX3 ∧ yX3_pick.cls ≠ "java/lang/invoke/MethodHandle" ∧ yX3_pick.cls ≠ "java/lang/invoke/VarHandle" ∧ (parseMethodDescriptor yX3_pick.desc).map (fun d => d.parameters.length) = some 4 := ⟨rfl, by decide +kernel, by decide +kernel, by decide +kernel⟩
set_option maxRecDepth 100000 in
set_option maxHeartbeats 1000000 in
theorem kX3_pick (l : Launch) (D : va_G) (cI cJ : ClassId) (nt aw ap an ae nn mm : Nat) (wo ne pr : Row) (ru bu gu mo : Int32)  : Met l yX3_pick wsX3_pick rmX3_pick (rPre D cI cJ [.ref nt, .int ru, .int bu, .int gu, .int mo] [(nt, .inr (3, [.int (nI nn), .int (nI mm), .ref aw, .ref ap, .ref an, .ref ae])), (aw, .inl (cI, 10, .inl wo)), (ap, .inl (cI, 10, .inl pr)), (an, .inl (cI, 10, .inl ne))]) (qRI (pickI wo ne pr ru bu gu mo)) 0 0 nA := by
  refine startR (cc := cX3_pick) (maxL := 10) (ret := (some .int)) (by decide) rfl (Nat.le_of_ble_eq_true rfl) ?_
  intro p e s m args below meth c ls Q hQ hx hb hr hlocks hml hown hts hK hN hP hl hin
  have hown : s.vm.findClass RX3 = some m.cls := hown
  have hi_3 : ∀ w ∈ wsX30, w ∈ wsX3_pick := by decide +kernel
  have hf_15 := hts (.fieldLink RX3 15 "FireNets$Net" "price" "[I") (by decide +kernel)
  have hini_RX6 := hts (.initialized RX6) (by decide +kernel)
  have hst_X6_holds := hts (.static yX6_holds) (by decide +kernel)
  have hS : va_S nA s.heap s.heap [] := va_S.rf
  have hl : lv_has ls 10 [(0, .ref nt), (1, .int ru), (2, .int bu), (3, .int gu), (4, .int mo)] := hl
  have hP : va_P D vwCl [(nt, .inr (3, [.int (nI nn), .int (nI mm), .ref aw, .ref ap, .ref an, .ref ae])), (aw, .inl (cI, 10, .inl wo)), (ap, .inl (cI, 10, .inl pr)), (an, .inl (cI, 10, .inl ne))] s.heap := hP
  refine lv_aload_n hx hb dX3_pick_0 rfl (lv_at hl 0 rfl) ?_
  refine lv_iload_n hx hb dX3_pick_1 rfl (lv_at hl 2 rfl) ?_
  refine lv_iload_n hx hb dX3_pick_2 rfl (lv_at hl 3 rfl) ?_
  refine goRI hP hS (va_runV (As := [.int bu, .int gu]) (rest := []) ⟨hx, hb, hml, hown, hts⟩ (kX3_threatened l D cI cJ nt aw ap an ae nn mm ne bu gu) (cwV 2 hts gX3_pick_X3_threatened rfl rfl rfl kdX3_threatened ⟨Nat.le_of_ble_eq_true rfl, Nat.le_of_ble_eq_true rfl⟩) (preRV hK hN hP 0 (ci := 3) rfl rfl rfl [0, 3] rfl) rfl rfl hl.1 rfl (lv_room (Nat.le_of_ble_eq_true rfl)) dX3_pick_3 ⟨Nat.zero_le _, Nat.zero_le _⟩) (fun H locs hP hS => ?_)
  refine lv_istore (lv' := [(5, .int (thr ne bu gu)), (0, .ref nt), (1, .int ru), (2, .int bu), (3, .int gu), (4, .int mo)]) hx hb dX3_pick_6 hl (by decide) rfl (fun ls hl => ?_)
  refine lv_iconst (v := (-1)) hx hb dX3_pick_8 (by decide) ?_
  refine lv_istore (lv' := [(6, .int (-1)), (5, .int (thr ne bu gu)), (0, .ref nt), (1, .int ru), (2, .int bu), (3, .int gu), (4, .int mo)]) hx hb dX3_pick_9 hl (by decide) rfl (fun ls hl => ?_)
  refine lv_iconst (v := (-1)) hx hb dX3_pick_11 (by decide) ?_
  refine lv_istore (lv' := [(7, .int (-1)), (6, .int (-1)), (5, .int (thr ne bu gu)), (0, .ref nt), (1, .int ru), (2, .int bu), (3, .int gu), (4, .int mo)]) hx hb dX3_pick_12 hl (by decide) rfl (fun ls hl => ?_)
  refine lv_iconst (v := 0) hx hb dX3_pick_14 (by decide) ?_
  refine lv_istore (lv' := [(8, .int 0), (7, .int (-1)), (6, .int (-1)), (5, .int (thr ne bu gu)), (0, .ref nt), (1, .int ru), (2, .int bu), (3, .int gu), (4, .int mo)]) hx hb dX3_pick_15 hl (by decide) rfl (fun ls hl => ?_)
  have lp : ∀ (fu : Nat) (k : Nat), (k ≤ 10) → 10 - k < fu → ∀ (ls : Array Slot) (H : Heap) (locs : List Loc), lv_has ls 10 [(0, .ref nt), (1, .int ru), (2, .int bu), (3, .int gu), (4, .int mo), (5, .int (thr ne bu gu)), (6, .int ((pickA wo ne pr ru bu gu (thr ne bu gu) mo k).1)), (7, .int ((pickA wo ne pr ru bu gu (thr ne bu gu) mo k).2)), (8, .int (nI k))] → va_P D vwCl [(nt, .inr (3, [.int (nI nn), .int (nI mm), .ref aw, .ref ap, .ref an, .ref ae])), (aw, .inl (cI, 10, .inl wo)), (ap, .inl (cI, 10, .inl pr)), (an, .inl (cI, 10, .inl ne))] H → va_S nA s.heap H locs → W p l e rmX3_pick s m args below meth c H locs 0 0 Q (F0 m 17 ls []) := by
    intro fu
    induction fu with
    | zero => intro k hk hf; exact absurd hf (Nat.not_lt_zero _)
    | succ fu ih_lp =>
      intro k hk hf ls H locs hl hP hS
      refine lv_iload hx hb dX3_pick_17 (lv_at hl 8 rfl) ?_
      refine lv_bipush (v := 10) hx hb dX3_pick_19 (by decide) ?_
      refine r_icmp_ge (tgt := 82) hx hb k 10 dX3_pick_21 (by decide) rfl rfl (by omega) (by omega) (fun c_21 => ?_) (fun c_21 => ?_)
      · refine lv_iload hx hb dX3_pick_82 (lv_at hl 6 rfl) ?_
        exact endRI hx hb hr hlocks hQ hS dX3_pick_84 (by rw [pickI, show k = 10 by omega])
      · refine lv_iload hx hb dX3_pick_24 (lv_at hl 5 rfl) ?_
        refine lv_iload hx hb dX3_pick_26 (lv_at hl 8 rfl) ?_
        refine goRI hP hS (va_runSN (As := [.int (thr ne bu gu), .int (nI k)]) (rest := []) ⟨hx, hb, hml, hown, hts⟩ (kX6_holds l D cI cJ (thr ne bu gu) (nI k)) ⟨va_cnB (host := "FireNets") 2 hts gX3_pick_X6_holds_n53 rfl rfl rfl (hN _ nwm_RX3_53) hini_RX6 kdX6_holds.2 ⟨Nat.le_of_ble_eq_true rfl, Nat.le_of_ble_eq_true rfl⟩, hst_X6_holds, trivial⟩ (preR hK hN hP [] rfl) rfl rfl hl.1 rfl (lv_room (Nat.le_of_ble_eq_true rfl)) dX3_pick_28 ⟨Nat.zero_le _, Nat.zero_le _⟩) (fun H locs hP hS => ?_)
        refine r_zeq (tgt := 76) hx hb dX3_pick_31 (by decide) (fun c_31 => ?_) (fun c_31 => ?_)
        · refine r_iinc (lv' := [(8, .int (nI (k + 1))), (0, .ref nt), (1, .int ru), (2, .int bu), (3, .int gu), (4, .int mo), (5, .int (thr ne bu gu)), (6, .int ((pickA wo ne pr ru bu gu (thr ne bu gu) mo k).1)), (7, .int ((pickA wo ne pr ru bu gu (thr ne bu gu) mo k).2))]) hx hb 8 k dX3_pick_76 hl rfl (by decide) rfl (fun ls hl => ?_)
          refine lv_goto (tgt := 17) hx hb dX3_pick_79 (by decide) ?_
          exact ih_lp (k + 1) (by omega) (by omega) ls _ _ (by rw [pickA, pickS, if_neg (fun h => c_31 h.1)]; exact lv_sub hl [1, 2, 3, 4, 5, 6, 7, 8, 0] rfl) hP hS
        · refine lv_aload_n hx hb dX3_pick_34 rfl (lv_at hl 0 rfl) ?_
          refine va_get (D := D) (ci := 3) (v := .ref ap) (C := RX3) (T := TX3) (N := 6) hx hb hts hi_3 hown hK hP 0 rfl rfl 3 (by decide) hf_15 (fun _ h9 => h9) rfl dX3_pick_35 ?_
          refine lv_iload hx hb dX3_pick_38 (lv_at hl 8 rfl) ?_
          refine r_iald hx hb hK hP 2 rfl k rfl (by omega) (by omega) dX3_pick_40 ?_
          refine lv_iload hx hb dX3_pick_41 (lv_at hl 4 rfl) ?_
          refine lv_icmp_le (tgt := 49) hx hb dX3_pick_43 (by decide) (fun c_43 => ?_) (fun c_43 => ?_)
          · refine lv_aload_n hx hb dX3_pick_49 rfl (lv_at hl 0 rfl) ?_
            refine lv_iload hx hb dX3_pick_50 (lv_at hl 8 rfl) ?_
            refine lv_iload_n hx hb dX3_pick_52 rfl (lv_at hl 1 rfl) ?_
            refine lv_iload_n hx hb dX3_pick_53 rfl (lv_at hl 2 rfl) ?_
            refine lv_iload_n hx hb dX3_pick_54 rfl (lv_at hl 3 rfl) ?_
            refine lv_ior hx hb dX3_pick_55 ?_
            refine goRI hP hS (va_runV (As := [.int (nI k), .int ru, .int (bu ||| gu)]) (rest := []) ⟨hx, hb, hml, hown, hts⟩ (kX3_rankOf l D cI cJ nt aw ap an ae nn mm wo ne k ru (bu ||| gu) (by omega)) (cwV 3 hts gX3_pick_X3_rankOf rfl rfl rfl kdX3_rankOf ⟨Nat.le_of_ble_eq_true rfl, Nat.le_of_ble_eq_true rfl⟩) (preRV hK hN hP 0 (ci := 3) rfl rfl rfl [0, 1, 3] rfl) rfl rfl hl.1 rfl (lv_room (Nat.le_of_ble_eq_true rfl)) dX3_pick_56 ⟨Nat.zero_le _, Nat.zero_le _⟩) (fun H locs hP hS => ?_)
            refine lv_istore (lv' := [(9, .int (rankI wo ne ru (bu ||| gu) k)), (0, .ref nt), (1, .int ru), (2, .int bu), (3, .int gu), (4, .int mo), (5, .int (thr ne bu gu)), (6, .int ((pickA wo ne pr ru bu gu (thr ne bu gu) mo k).1)), (7, .int ((pickA wo ne pr ru bu gu (thr ne bu gu) mo k).2)), (8, .int (nI k))]) hx hb dX3_pick_59 hl (by decide) rfl (fun ls hl => ?_)
            refine lv_iload hx hb dX3_pick_61 (lv_at hl 0 rfl) ?_
            refine lv_iload hx hb dX3_pick_63 (lv_at hl 8 rfl) ?_
            refine lv_icmp_le (tgt := 76) hx hb dX3_pick_65 (by decide) (fun c_65 => ?_) (fun c_65 => ?_)
            · refine r_iinc (lv' := [(8, .int (nI (k + 1))), (9, .int (rankI wo ne ru (bu ||| gu) k)), (0, .ref nt), (1, .int ru), (2, .int bu), (3, .int gu), (4, .int mo), (5, .int (thr ne bu gu)), (6, .int ((pickA wo ne pr ru bu gu (thr ne bu gu) mo k).1)), (7, .int ((pickA wo ne pr ru bu gu (thr ne bu gu) mo k).2))]) hx hb 9 k dX3_pick_76 hl rfl (by decide) rfl (fun ls hl => ?_)
              refine lv_goto (tgt := 17) hx hb dX3_pick_79 (by decide) ?_
              exact ih_lp (k + 1) (by omega) (by omega) ls _ _ (by rw [pickA, pickS, if_neg (fun h => i_nlt c_65 h.2.2)]; exact lv_sub hl [2, 3, 4, 5, 6, 7, 8, 9, 0] rfl) hP hS
            · refine lv_iload hx hb dX3_pick_68 (lv_at hl 9 rfl) ?_
              refine lv_istore (lv' := [(6, .int (nI k)), (9, .int (rankI wo ne ru (bu ||| gu) k)), (0, .ref nt), (1, .int ru), (2, .int bu), (3, .int gu), (4, .int mo), (5, .int (thr ne bu gu)), (7, .int ((pickA wo ne pr ru bu gu (thr ne bu gu) mo k).2)), (8, .int (nI k))]) hx hb dX3_pick_70 hl (by decide) rfl (fun ls hl => ?_)
              refine lv_iload hx hb dX3_pick_72 (lv_at hl 1 rfl) ?_
              refine lv_istore (lv' := [(7, .int (rankI wo ne ru (bu ||| gu) k)), (6, .int (nI k)), (9, .int (rankI wo ne ru (bu ||| gu) k)), (0, .ref nt), (1, .int ru), (2, .int bu), (3, .int gu), (4, .int mo), (5, .int (thr ne bu gu)), (8, .int (nI k))]) hx hb dX3_pick_74 hl (by decide) rfl (fun ls hl => ?_)
              refine r_iinc (lv' := [(8, .int (nI (k + 1))), (7, .int (rankI wo ne ru (bu ||| gu) k)), (6, .int (nI k)), (9, .int (rankI wo ne ru (bu ||| gu) k)), (0, .ref nt), (1, .int ru), (2, .int bu), (3, .int gu), (4, .int mo), (5, .int (thr ne bu gu))]) hx hb 9 k dX3_pick_76 hl rfl (by decide) rfl (fun ls hl => ?_)
              refine lv_goto (tgt := 17) hx hb dX3_pick_79 (by decide) ?_
              exact ih_lp (k + 1) (by omega) (by omega) ls _ _ (by rw [pickA, pickS, if_pos ⟨c_31, c_43, i_le c_65⟩]; exact lv_sub hl [4, 5, 6, 7, 8, 9, 2, 1, 0] rfl) hP hS
          · refine lv_goto (tgt := 76) hx hb dX3_pick_46 (by decide) ?_
            refine r_iinc (lv' := [(8, .int (nI (k + 1))), (0, .ref nt), (1, .int ru), (2, .int bu), (3, .int gu), (4, .int mo), (5, .int (thr ne bu gu)), (6, .int ((pickA wo ne pr ru bu gu (thr ne bu gu) mo k).1)), (7, .int ((pickA wo ne pr ru bu gu (thr ne bu gu) mo k).2))]) hx hb 8 k dX3_pick_76 hl rfl (by decide) rfl (fun ls hl => ?_)
            refine lv_goto (tgt := 17) hx hb dX3_pick_79 (by decide) ?_
            exact ih_lp (k + 1) (by omega) (by omega) ls _ _ (by rw [pickA, pickS, if_neg (fun h => c_43 h.2.1)]; exact lv_sub hl [1, 2, 3, 4, 5, 6, 7, 8, 0] rfl) hP hS
  exact lp _ 0 (by omega) (Nat.lt_succ_self _) ls _ _ (lv_sub hl [4, 5, 6, 7, 8, 3, 2, 1, 0] rfl) hP hS
def rmX6_swap : Room := { frames := 0, cells := 0, slots := 0, locals := 0 }
theorem kdX6_swap : yX6_swap.cls = RX6 ∧ yX6_swap.cls ≠ "java/lang/invoke/MethodHandle" ∧ yX6_swap.cls ≠ "java/lang/invoke/VarHandle" ∧ (parseMethodDescriptor yX6_swap.desc).map (fun d => d.parameters.length) = some 3 := ⟨rfl, by decide +kernel, by decide +kernel, by decide +kernel⟩
set_option maxRecDepth 100000 in
set_option maxHeartbeats 1000000 in
theorem kX6_swap (l : Launch) (D : va_G) (cI cJ : ClassId) (ar N k : Nat) (f : Row) (v : Int32) (hk : k < N) (hN : N < 2 ^ 31) : Met l yX6_swap wsX6_swap rmX6_swap (mPre D cI cJ [.ref ar, .int (nI k), .int v] [(ar, .inl (cI, N, .inl f))]) (mQi D (fun (r : Int32) (_ : Unit) => r = (f k)) (fun (_ : Unit) => [(ar, .inl (cI, N, .inl (upd f k v)))]) [(ar, .inl (cI, N, .inl f))]) 0 0 (mA [(ar, .inl (cI, N, .inl f))]) := by
  refine startM (cc := cX6_swap) (maxL := 4) (ret := (some .int)) (by decide) rfl (Nat.le_of_ble_eq_true rfl) ?_
  intro p e s m args below meth c ls Q A hA hQ hx hb hr hlocks hml hown hts hK hN hP hD hl hin
  have hown : s.vm.findClass RX6 = some m.cls := hown
  have hS : va_S A s.heap s.heap [] := va_S.rf
  have hl : lv_has ls 4 [(0, .ref ar), (1, .int (nI k)), (2, .int v)] := hl
  have hP : va_P D vwCl [(ar, .inl (cI, N, .inl f))] s.heap := hP
  refine lv_iload_n hx hb dX6_swap_0 rfl (lv_at hl 1 rfl) ?_
  refine lv_if_lt (tgt := 10) hx hb dX6_swap_1 (by decide) (fun c_1 => ?_) (fun c_1 => ?_)
  · exact absurd c_1 (nI_pos (by omega))
  · refine lv_iload_n hx hb dX6_swap_4 rfl (lv_at hl 1 rfl) ?_
    refine lv_aload_n hx hb dX6_swap_5 rfl (lv_at hl 0 rfl) ?_
    refine va_alen (v := nI N) hx hb hK hP 0 0 rfl rfl rfl dX6_swap_6 ?_
    refine r_icmp_lt (tgt := 12) hx hb k N dX6_swap_7 (by decide) rfl rfl (by omega) (by omega) (fun c_7 => ?_) (fun c_7 => ?_)
    · refine lv_aload_n hx hb dX6_swap_12 rfl (lv_at hl 0 rfl) ?_
      refine lv_iload_n hx hb dX6_swap_13 rfl (lv_at hl 1 rfl) ?_
      refine r_iald hx hb hK hP 0 rfl k rfl (by omega) (by omega) dX6_swap_14 ?_
      refine lv_istore_n (lv' := [(3, .int (f k)), (0, .ref ar), (1, .int (nI k)), (2, .int v)]) hx hb dX6_swap_15 rfl hl (by decide) rfl (fun ls hl => ?_)
      refine lv_aload_n hx hb dX6_swap_16 rfl (lv_at hl 1 rfl) ?_
      refine lv_iload_n hx hb dX6_swap_17 rfl (lv_at hl 2 rfl) ?_
      refine lv_iload_n hx hb dX6_swap_18 rfl (lv_at hl 3 rfl) ?_
      refine r_iast hx hb hK hP hD hS 0 rfl k rfl (by omega) (by omega) dX6_swap_19 (fun H locs hP hD hS => ?_)
      have hP : va_P D vwCl [(ar, .inl (cI, N, .inl (upd f k v)))] H := hP
      have hD : va_D A [(ar, .inl (cI, N, .inl (upd f k v)))] := hD
      refine lv_iload_n hx hb dX6_swap_20 rfl (lv_at hl 0 rfl) ?_
      exact endMI () hx hb hr hlocks hA hQ hS hP dX6_swap_21 rfl rfl
    · exact absurd c_7 (by omega)

def ruleM (ke : Bool) (bd what v : Int32) : Int32 × Bool × Int32 := if 0 ≤ what ∧ what ≤ 1 then if what = 0 then if 0 ≤ v ∧ v ≤ 1 then (if ke = true then 1 else 0, decide (v = 1), bd) else (-1002, ke, bd) else if 50 ≤ v ∧ v ≤ 1000 then (bd, ke, v) else (-1002, ke, bd) else (-1002, ke, bd)
theorem what_1 {what : Int32} (h : 0 ≤ what ∧ what ≤ 1) (h0 : ¬ what = 0) : what = 1 := by
  obtain ⟨h1, h2⟩ := h
  have e := what.toInt_lt
  rw [Int32.le_iff_toInt_le] at h1 h2
  refine Int32.toInt_inj.mp ?_
  have h3 : what.toInt ≠ 0 := fun h => h0 (Int32.toInt_inj.mp h)
  have e0 : (0 : Int32).toInt = 0 := by decide
  have e1 : (1 : Int32).toInt = 1 := by decide
  rw [e0] at h1; rw [e1] at h2 ⊢
  omega
def rmX7_rule : Room := { frames := 1, cells := 0, slots := 0, locals := 25 }
theorem kdX7_rule : yX7_rule.cls = RX7 ∧ yX7_rule.cls ≠ "java/lang/invoke/MethodHandle" ∧ yX7_rule.cls ≠ "java/lang/invoke/VarHandle" ∧ (parseMethodDescriptor yX7_rule.desc).map (fun d => d.parameters.length) = some 2 := ⟨rfl, by decide +kernel, by decide +kernel, by decide +kernel⟩
set_option maxRecDepth 100000 in
set_option maxHeartbeats 1000000 in
theorem kX7_rule (l : Launch) (D : va_G) (cI cJ : ClassId) (mo : Nat) (nn : Nat) (mm : Nat) (me : Nat) (mj : Nat) (mw : Nat) (mp : Nat) (mu : Nat) (ke : Bool) (bd : Int32) (ml : Nat) (sq : Nat) (mq : Nat) (fi : Int32) (gu : Int32) (le : Int32) (cs : Int32) (ba : Bool) (ov : Int32) (m1 : Nat) (m2 : Nat) (m3 : Nat) (m4 : Nat) (lk : Int32) (sp : Bool) (bs : Int32) (bo : Int32) (m5 : Nat) (m6 : Nat) (m7 : Nat) (su : Int32) (sl : Int32) (m8 : Nat) (lo : Int32) (sh : Int32) (what v : Int32)  : Met l yX7_rule wsX7_rule rmX7_rule (mPre D cI cJ [.ref mo, .int what, .int v] [(mo, .inr (7, moV (nI nn) (nI mm) me mj mw mp mu (zb (ke = true)) bd ml (nI sq) mq fi gu le cs (zb (ba = true)) ov m1 m2 m3 m4 lk (zb (sp = true)) bs bo m5 m6 m7 su sl m8 lo sh))]) (mQi D (fun (r : Int32) (_ : Unit) => r = ((ruleM ke bd what v).1)) (fun (_ : Unit) => [(mo, .inr (7, moV (nI nn) (nI mm) me mj mw mp mu (zb ((ruleM ke bd what v).2.1 = true)) ((ruleM ke bd what v).2.2) ml (nI sq) mq fi gu le cs (zb (ba = true)) ov m1 m2 m3 m4 lk (zb (sp = true)) bs bo m5 m6 m7 su sl m8 lo sh))]) [(mo, .inr (7, moV (nI nn) (nI mm) me mj mw mp mu (zb (ke = true)) bd ml (nI sq) mq fi gu le cs (zb (ba = true)) ov m1 m2 m3 m4 lk (zb (sp = true)) bs bo m5 m6 m7 su sl m8 lo sh))]) 0 0 (mA [(mo, .inr (7, moV (nI nn) (nI mm) me mj mw mp mu (zb (ke = true)) bd ml (nI sq) mq fi gu le cs (zb (ba = true)) ov m1 m2 m3 m4 lk (zb (sp = true)) bs bo m5 m6 m7 su sl m8 lo sh))]) := by
  refine startM (cc := cX7_rule) (maxL := 4) (ret := (some .int)) (by decide) rfl (Nat.le_of_ble_eq_true rfl) ?_
  intro p e s m args below meth c ls Q A hA hQ hx hb hr hlocks hml hown hts hK hN hP hD hl hin
  have hown : s.vm.findClass RX7 = some m.cls := hown
  have hi_7 : ∀ w ∈ wsX70, w ∈ wsX7_rule := by decide +kernel
  have hf_29 := hts (.fieldLink RX7 29 "FireNetsModel" "bound" "I") (by decide +kernel)
  have hf_92 := hts (.fieldLink RX7 92 "FireNetsModel" "keeps" "Z") (by decide +kernel)
  have hc_88 := hts (.constantLong RX7 88 (50)) (by decide +kernel)
  have hc_90 := hts (.constantLong RX7 90 (1000)) (by decide +kernel)
  have hS : va_S A s.heap s.heap [] := va_S.rf
  have hl : lv_has ls 4 [(0, .ref mo), (1, .int what), (2, .int v)] := hl
  have hP : va_P D vwCl [(mo, .inr (7, moV (nI nn) (nI mm) me mj mw mp mu (zb (ke = true)) bd ml (nI sq) mq fi gu le cs (zb (ba = true)) ov m1 m2 m3 m4 lk (zb (sp = true)) bs bo m5 m6 m7 su sl m8 lo sh))] s.heap := hP
  refine lv_iload_n hx hb dX7_rule_0 rfl (lv_at hl 1 rfl) ?_
  refine lv_i2l (v := what.toInt64) hx hb dX7_rule_1 rfl ?_
  refine lv_lconst (v := 0) hx hb dX7_rule_2 (by decide) ?_
  refine lv_lconst (v := 1) hx hb dX7_rule_3 (by decide) ?_
  refine goRI hP hS (va_runS (As := [.long what.toInt64, .long 0, .long 1]) (rest := []) ⟨hx, hb, hml, hown, hts⟩ (kX7_in l D cI cJ what.toInt64 0 1) (va_cwS 3 hts gX7_rule_X7_in rfl rfl rfl kdX7_in.2 ⟨Nat.le_of_ble_eq_true rfl, Nat.le_of_ble_eq_true rfl⟩) (preR hK hN hP [] rfl) rfl rfl hl.1 rfl (lv_room (Nat.le_of_ble_eq_true rfl)) dX7_rule_4 ⟨Nat.zero_le _, Nat.zero_le _⟩) (fun H locs hP hS => ?_)
  refine r_top (x' := zb (0 ≤ what ∧ what ≤ 1)) (zb_iff (in_c (by first | rfl | decide) (by first | rfl | decide))) ?_
  refine r_zeq (tgt := 40) hx hb dX7_rule_7 (by decide) (fun c_7 => ?_) (fun c_7 => ?_)
  · refine lv_sipush (v := (-1002)) hx hb dX7_rule_40 (by decide) ?_
    exact endMI () hx hb hr hlocks hA hQ hS hP dX7_rule_43 (by have hr : ruleM ke bd what v = (-1002, ke, bd) := (by rw [ruleM, if_neg c_7]); first | (rw [hr]; done) | (rw [hr]; rfl)) (by have hr : ruleM ke bd what v = (-1002, ke, bd) := (by rw [ruleM, if_neg c_7]); first | (rw [hr]; done) | (rw [hr]; rfl))
  · refine lv_iload_n hx hb dX7_rule_10 rfl (lv_at hl 2 rfl) ?_
    refine lv_i2l (v := v.toInt64) hx hb dX7_rule_11 rfl ?_
    refine lv_iload_n hx hb dX7_rule_12 rfl (lv_at hl 1 rfl) ?_
    refine lv_if_ne (tgt := 20) hx hb dX7_rule_13 (by decide) (fun c_13 => ?_) (fun c_13 => ?_)
    · refine lv_ldc2 (v := 50) hx hb hown hc_88 dX7_rule_20 ?_
      refine lv_iload_n hx hb dX7_rule_23 rfl (lv_at hl 1 rfl) ?_
      refine lv_if_ne (tgt := 31) hx hb dX7_rule_24 (by decide) (fun c_24 => ?_) (fun c_24 => ?_)
      · refine lv_ldc2 (v := 1000) hx hb hown hc_90 dX7_rule_31 ?_
        refine goRI hP hS (va_runS (As := [.long v.toInt64, .long 50, .long 1000]) (rest := []) ⟨hx, hb, hml, hown, hts⟩ (kX7_in l D cI cJ v.toInt64 50 1000) (va_cwS 3 hts gX7_rule_X7_in rfl rfl rfl kdX7_in.2 ⟨Nat.le_of_ble_eq_true rfl, Nat.le_of_ble_eq_true rfl⟩) (preR hK hN hP [] rfl) rfl rfl hl.1 rfl (lv_room (Nat.le_of_ble_eq_true rfl)) dX7_rule_34 ⟨Nat.zero_le _, Nat.zero_le _⟩) (fun H locs hP hS => ?_)
        refine r_top (x' := zb (50 ≤ v ∧ v ≤ 1000)) (zb_iff (in_c (by first | rfl | decide) (by first | rfl | decide))) ?_
        refine r_zne (tgt := 44) hx hb dX7_rule_37 (by decide) (fun c_37 => ?_) (fun c_37 => ?_)
        · refine lv_iload_n hx hb dX7_rule_44 rfl (lv_at hl 1 rfl) ?_
          refine lv_if_ne (tgt := 63) hx hb dX7_rule_45 (by decide) (fun c_45 => ?_) (fun c_45 => ?_)
          · refine lv_aload_n hx hb dX7_rule_63 rfl (lv_at hl 0 rfl) ?_
            refine va_get (D := D) (ci := 7) (v := .int bd) (C := RX7) (T := TX7) (N := 34) hx hb hts hi_7 hown hK hP 0 rfl rfl 8 (by decide) hf_29 (fun _ h9 => h9) rfl dX7_rule_64 ?_
            refine lv_istore_n (lv' := [(3, .int bd), (0, .ref mo), (1, .int what), (2, .int v)]) hx hb dX7_rule_67 rfl hl (by decide) rfl (fun ls hl => ?_)
            refine lv_aload_n hx hb dX7_rule_68 rfl (lv_at hl 1 rfl) ?_
            refine lv_iload_n hx hb dX7_rule_69 rfl (lv_at hl 2 rfl) ?_
            refine lv_if_ne (tgt := 86) hx hb dX7_rule_70 (by decide) (fun c_70 => ?_) (fun c_70 => ?_)
            · refine lv_aload_n hx hb dX7_rule_86 rfl (lv_at hl 1 rfl) ?_
              refine va_get (D := D) (ci := 7) (v := .int (zb (ke = true))) (C := RX7) (T := TX7) (N := 34) hx hb hts hi_7 hown hK hP 0 rfl rfl 7 (by decide) hf_92 (fun _ h9 => h9) rfl dX7_rule_87 ?_
              refine va_put (D := D) (ci := 7) (v := .int (zb (ke = true))) (ty := .boolean) (C := RX7) (T := TX7) (N := 34) hx hb hts hi_7 tyX7 tyX7_ok nmX7 hown hK hP hD hS 0 rfl rfl 7 (by decide) hf_92 (fun _ h9 => h9) rfl (by decide +kernel) zb_nar zb_fit (Nat.le_of_ble_eq_true rfl) dX7_rule_90 (fun H locs hP hD hS => ?_)
              have hP : va_P D vwCl [(mo, .inr (7, moV (nI nn) (nI mm) me mj mw mp mu (zb (ke = true)) bd ml (nI sq) mq fi gu le cs (zb (ba = true)) ov m1 m2 m3 m4 lk (zb (sp = true)) bs bo m5 m6 m7 su sl m8 lo sh))] H := hP
              have hD : va_D A [(mo, .inr (7, moV (nI nn) (nI mm) me mj mw mp mu (zb (ke = true)) bd ml (nI sq) mq fi gu le cs (zb (ba = true)) ov m1 m2 m3 m4 lk (zb (sp = true)) bs bo m5 m6 m7 su sl m8 lo sh))] := hD
              refine lv_aload_n hx hb dX7_rule_93 rfl (lv_at hl 1 rfl) ?_
              refine lv_iload_n hx hb dX7_rule_94 rfl (lv_at hl 2 rfl) ?_
              refine lv_iconst (v := 1) hx hb dX7_rule_95 (by decide) ?_
              refine lv_icmp_ne (tgt := 103) hx hb dX7_rule_96 (by decide) (fun c_96 => ?_) (fun c_96 => ?_)
              · exact absurd (what_1 c_7 c_13) c_96
              · refine lv_iload_n hx hb dX7_rule_99 rfl (lv_at hl 3 rfl) ?_
                refine lv_goto (tgt := 107) hx hb dX7_rule_100 (by decide) ?_
                refine va_put (D := D) (ci := 7) (v := .int v) (ty := .int) (C := RX7) (T := TX7) (N := 34) hx hb hts hi_7 tyX7 tyX7_ok nmX7 hown hK hP hD hS 0 rfl rfl 8 (by decide) hf_29 (fun _ h9 => h9) rfl (by decide +kernel) rfl rfl (Nat.le_of_ble_eq_true rfl) dX7_rule_107 (fun H locs hP hD hS => ?_)
                have hP : va_P D vwCl [(mo, .inr (7, moV (nI nn) (nI mm) me mj mw mp mu (zb (ke = true)) v ml (nI sq) mq fi gu le cs (zb (ba = true)) ov m1 m2 m3 m4 lk (zb (sp = true)) bs bo m5 m6 m7 su sl m8 lo sh))] H := hP
                have hD : va_D A [(mo, .inr (7, moV (nI nn) (nI mm) me mj mw mp mu (zb (ke = true)) v ml (nI sq) mq fi gu le cs (zb (ba = true)) ov m1 m2 m3 m4 lk (zb (sp = true)) bs bo m5 m6 m7 su sl m8 lo sh))] := hD
                refine lv_iload_n hx hb dX7_rule_110 rfl (lv_at hl 0 rfl) ?_
                exact endMI () hx hb hr hlocks hA hQ hS hP dX7_rule_111 (by have hr : ruleM ke bd what v = (bd, ke, v) := (by rw [ruleM, if_pos c_7, if_neg c_13, if_pos c_37]); first | (rw [hr]; done) | (rw [hr]; rfl)) (by have hr : ruleM ke bd what v = (bd, ke, v) := (by rw [ruleM, if_pos c_7, if_neg c_13, if_pos c_37]); first | (rw [hr]; done) | (rw [hr]; rfl))
            · exact absurd c_70 c_13
          · exact absurd c_45 c_13
        · refine lv_sipush (v := (-1002)) hx hb dX7_rule_40 (by decide) ?_
          exact endMI () hx hb hr hlocks hA hQ hS hP dX7_rule_43 (by have hr : ruleM ke bd what v = (-1002, ke, bd) := (by rw [ruleM, if_pos c_7, if_neg c_13, if_neg c_37]); first | (rw [hr]; done) | (rw [hr]; rfl)) (by have hr : ruleM ke bd what v = (-1002, ke, bd) := (by rw [ruleM, if_pos c_7, if_neg c_13, if_neg c_37]); first | (rw [hr]; done) | (rw [hr]; rfl))
      · exact absurd c_24 c_13
    · refine lv_lconst (v := 0) hx hb dX7_rule_16 (by decide) ?_
      refine lv_goto (tgt := 23) hx hb dX7_rule_17 (by decide) ?_
      refine lv_iload_n hx hb dX7_rule_23 rfl (lv_at hl 1 rfl) ?_
      refine lv_if_ne (tgt := 31) hx hb dX7_rule_24 (by decide) (fun c_24 => ?_) (fun c_24 => ?_)
      · exact absurd c_13 c_24
      · refine lv_lconst (v := 1) hx hb dX7_rule_27 (by decide) ?_
        refine lv_goto (tgt := 34) hx hb dX7_rule_28 (by decide) ?_
        refine goRI hP hS (va_runS (As := [.long v.toInt64, .long 0, .long 1]) (rest := []) ⟨hx, hb, hml, hown, hts⟩ (kX7_in l D cI cJ v.toInt64 0 1) (va_cwS 3 hts gX7_rule_X7_in rfl rfl rfl kdX7_in.2 ⟨Nat.le_of_ble_eq_true rfl, Nat.le_of_ble_eq_true rfl⟩) (preR hK hN hP [] rfl) rfl rfl hl.1 rfl (lv_room (Nat.le_of_ble_eq_true rfl)) dX7_rule_34 ⟨Nat.zero_le _, Nat.zero_le _⟩) (fun H locs hP hS => ?_)
        refine r_top (x' := zb (0 ≤ v ∧ v ≤ 1)) (zb_iff (in_c (by first | rfl | decide) (by first | rfl | decide))) ?_
        refine r_zne (tgt := 44) hx hb dX7_rule_37 (by decide) (fun c_37 => ?_) (fun c_37 => ?_)
        · refine lv_iload_n hx hb dX7_rule_44 rfl (lv_at hl 1 rfl) ?_
          refine lv_if_ne (tgt := 63) hx hb dX7_rule_45 (by decide) (fun c_45 => ?_) (fun c_45 => ?_)
          · exact absurd c_13 c_45
          · refine lv_aload_n hx hb dX7_rule_48 rfl (lv_at hl 0 rfl) ?_
            refine va_get (D := D) (ci := 7) (v := .int (zb (ke = true))) (C := RX7) (T := TX7) (N := 34) hx hb hts hi_7 hown hK hP 0 rfl rfl 7 (by decide) hf_92 (fun _ h9 => h9) rfl dX7_rule_49 ?_
            refine r_zeq (tgt := 59) hx hb dX7_rule_52 (by decide) (fun c_52 => ?_) (fun c_52 => ?_)
            · refine lv_iconst (v := 0) hx hb dX7_rule_59 (by decide) ?_
              refine lv_goto (tgt := 67) hx hb dX7_rule_60 (by decide) ?_
              refine lv_istore_n (lv' := [(3, .int 0), (0, .ref mo), (1, .int what), (2, .int v)]) hx hb dX7_rule_67 rfl hl (by decide) rfl (fun ls hl => ?_)
              refine lv_aload_n hx hb dX7_rule_68 rfl (lv_at hl 1 rfl) ?_
              refine lv_iload_n hx hb dX7_rule_69 rfl (lv_at hl 2 rfl) ?_
              refine lv_if_ne (tgt := 86) hx hb dX7_rule_70 (by decide) (fun c_70 => ?_) (fun c_70 => ?_)
              · exact absurd c_13 c_70
              · refine lv_iload_n hx hb dX7_rule_73 rfl (lv_at hl 3 rfl) ?_
                refine lv_iconst (v := 1) hx hb dX7_rule_74 (by decide) ?_
                refine lv_icmp_ne (tgt := 82) hx hb dX7_rule_75 (by decide) (fun c_75 => ?_) (fun c_75 => ?_)
                · refine lv_iconst (v := 0) hx hb dX7_rule_82 (by decide) ?_
                  refine lv_goto (tgt := 90) hx hb dX7_rule_83 (by decide) ?_
                  refine va_put (D := D) (ci := 7) (v := .int 0) (ty := .boolean) (C := RX7) (T := TX7) (N := 34) hx hb hts hi_7 tyX7 tyX7_ok nmX7 hown hK hP hD hS 0 rfl rfl 7 (by decide) hf_92 (fun _ h9 => h9) rfl (by decide +kernel) rfl rfl (Nat.le_of_ble_eq_true rfl) dX7_rule_90 (fun H locs hP hD hS => ?_)
                  have hP : va_P D vwCl [(mo, .inr (7, moV (nI nn) (nI mm) me mj mw mp mu 0 bd ml (nI sq) mq fi gu le cs (zb (ba = true)) ov m1 m2 m3 m4 lk (zb (sp = true)) bs bo m5 m6 m7 su sl m8 lo sh))] H := hP
                  have hD : va_D A [(mo, .inr (7, moV (nI nn) (nI mm) me mj mw mp mu 0 bd ml (nI sq) mq fi gu le cs (zb (ba = true)) ov m1 m2 m3 m4 lk (zb (sp = true)) bs bo m5 m6 m7 su sl m8 lo sh))] := hD
                  refine lv_aload_n hx hb dX7_rule_93 rfl (lv_at hl 1 rfl) ?_
                  refine lv_iload_n hx hb dX7_rule_94 rfl (lv_at hl 2 rfl) ?_
                  refine lv_iconst (v := 1) hx hb dX7_rule_95 (by decide) ?_
                  refine lv_icmp_ne (tgt := 103) hx hb dX7_rule_96 (by decide) (fun c_96 => ?_) (fun c_96 => ?_)
                  · refine lv_aload_n hx hb dX7_rule_103 rfl (lv_at hl 1 rfl) ?_
                    refine va_get (D := D) (ci := 7) (v := .int bd) (C := RX7) (T := TX7) (N := 34) hx hb hts hi_7 hown hK hP 0 rfl rfl 8 (by decide) hf_29 (fun _ h9 => h9) rfl dX7_rule_104 ?_
                    refine va_put (D := D) (ci := 7) (v := .int bd) (ty := .int) (C := RX7) (T := TX7) (N := 34) hx hb hts hi_7 tyX7 tyX7_ok nmX7 hown hK hP hD hS 0 rfl rfl 8 (by decide) hf_29 (fun _ h9 => h9) rfl (by decide +kernel) rfl rfl (Nat.le_of_ble_eq_true rfl) dX7_rule_107 (fun H locs hP hD hS => ?_)
                    have hP : va_P D vwCl [(mo, .inr (7, moV (nI nn) (nI mm) me mj mw mp mu 0 bd ml (nI sq) mq fi gu le cs (zb (ba = true)) ov m1 m2 m3 m4 lk (zb (sp = true)) bs bo m5 m6 m7 su sl m8 lo sh))] H := hP
                    have hD : va_D A [(mo, .inr (7, moV (nI nn) (nI mm) me mj mw mp mu 0 bd ml (nI sq) mq fi gu le cs (zb (ba = true)) ov m1 m2 m3 m4 lk (zb (sp = true)) bs bo m5 m6 m7 su sl m8 lo sh))] := hD
                    refine lv_iload_n hx hb dX7_rule_110 rfl (lv_at hl 0 rfl) ?_
                    exact endMI () hx hb hr hlocks hA hQ hS hP dX7_rule_111 (by have hr : ruleM ke bd what v = (0, false, bd) := (by rw [ruleM, if_pos c_7, if_pos c_13, if_pos c_37, if_neg c_52, decide_eq_false c_75]); first | (rw [hr]; done) | (rw [hr]; rfl)) (by have hr : ruleM ke bd what v = (0, false, bd) := (by rw [ruleM, if_pos c_7, if_pos c_13, if_pos c_37, if_neg c_52, decide_eq_false c_75]); first | (rw [hr]; done) | (rw [hr]; rfl))
                  · exact absurd (c_96.symm.trans c_13) (by decide)
                · refine lv_iconst (v := 1) hx hb dX7_rule_78 (by decide) ?_
                  refine lv_goto (tgt := 90) hx hb dX7_rule_79 (by decide) ?_
                  refine va_put (D := D) (ci := 7) (v := .int 1) (ty := .boolean) (C := RX7) (T := TX7) (N := 34) hx hb hts hi_7 tyX7 tyX7_ok nmX7 hown hK hP hD hS 0 rfl rfl 7 (by decide) hf_92 (fun _ h9 => h9) rfl (by decide +kernel) rfl rfl (Nat.le_of_ble_eq_true rfl) dX7_rule_90 (fun H locs hP hD hS => ?_)
                  have hP : va_P D vwCl [(mo, .inr (7, moV (nI nn) (nI mm) me mj mw mp mu 1 bd ml (nI sq) mq fi gu le cs (zb (ba = true)) ov m1 m2 m3 m4 lk (zb (sp = true)) bs bo m5 m6 m7 su sl m8 lo sh))] H := hP
                  have hD : va_D A [(mo, .inr (7, moV (nI nn) (nI mm) me mj mw mp mu 1 bd ml (nI sq) mq fi gu le cs (zb (ba = true)) ov m1 m2 m3 m4 lk (zb (sp = true)) bs bo m5 m6 m7 su sl m8 lo sh))] := hD
                  refine lv_aload_n hx hb dX7_rule_93 rfl (lv_at hl 1 rfl) ?_
                  refine lv_iload_n hx hb dX7_rule_94 rfl (lv_at hl 2 rfl) ?_
                  refine lv_iconst (v := 1) hx hb dX7_rule_95 (by decide) ?_
                  refine lv_icmp_ne (tgt := 103) hx hb dX7_rule_96 (by decide) (fun c_96 => ?_) (fun c_96 => ?_)
                  · refine lv_aload_n hx hb dX7_rule_103 rfl (lv_at hl 1 rfl) ?_
                    refine va_get (D := D) (ci := 7) (v := .int bd) (C := RX7) (T := TX7) (N := 34) hx hb hts hi_7 hown hK hP 0 rfl rfl 8 (by decide) hf_29 (fun _ h9 => h9) rfl dX7_rule_104 ?_
                    refine va_put (D := D) (ci := 7) (v := .int bd) (ty := .int) (C := RX7) (T := TX7) (N := 34) hx hb hts hi_7 tyX7 tyX7_ok nmX7 hown hK hP hD hS 0 rfl rfl 8 (by decide) hf_29 (fun _ h9 => h9) rfl (by decide +kernel) rfl rfl (Nat.le_of_ble_eq_true rfl) dX7_rule_107 (fun H locs hP hD hS => ?_)
                    have hP : va_P D vwCl [(mo, .inr (7, moV (nI nn) (nI mm) me mj mw mp mu 1 bd ml (nI sq) mq fi gu le cs (zb (ba = true)) ov m1 m2 m3 m4 lk (zb (sp = true)) bs bo m5 m6 m7 su sl m8 lo sh))] H := hP
                    have hD : va_D A [(mo, .inr (7, moV (nI nn) (nI mm) me mj mw mp mu 1 bd ml (nI sq) mq fi gu le cs (zb (ba = true)) ov m1 m2 m3 m4 lk (zb (sp = true)) bs bo m5 m6 m7 su sl m8 lo sh))] := hD
                    refine lv_iload_n hx hb dX7_rule_110 rfl (lv_at hl 0 rfl) ?_
                    exact endMI () hx hb hr hlocks hA hQ hS hP dX7_rule_111 (by have hr : ruleM ke bd what v = (0, true, bd) := (by rw [ruleM, if_pos c_7, if_pos c_13, if_pos c_37, if_neg c_52, decide_eq_true c_75]); first | (rw [hr]; done) | (rw [hr]; rfl)) (by have hr : ruleM ke bd what v = (0, true, bd) := (by rw [ruleM, if_pos c_7, if_pos c_13, if_pos c_37, if_neg c_52, decide_eq_true c_75]); first | (rw [hr]; done) | (rw [hr]; rfl))
                  · exact absurd (c_96.symm.trans c_13) (by decide)
            · refine lv_iconst (v := 1) hx hb dX7_rule_55 (by decide) ?_
              refine lv_goto (tgt := 67) hx hb dX7_rule_56 (by decide) ?_
              refine lv_istore_n (lv' := [(3, .int 1), (0, .ref mo), (1, .int what), (2, .int v)]) hx hb dX7_rule_67 rfl hl (by decide) rfl (fun ls hl => ?_)
              refine lv_aload_n hx hb dX7_rule_68 rfl (lv_at hl 1 rfl) ?_
              refine lv_iload_n hx hb dX7_rule_69 rfl (lv_at hl 2 rfl) ?_
              refine lv_if_ne (tgt := 86) hx hb dX7_rule_70 (by decide) (fun c_70 => ?_) (fun c_70 => ?_)
              · exact absurd c_13 c_70
              · refine lv_iload_n hx hb dX7_rule_73 rfl (lv_at hl 3 rfl) ?_
                refine lv_iconst (v := 1) hx hb dX7_rule_74 (by decide) ?_
                refine lv_icmp_ne (tgt := 82) hx hb dX7_rule_75 (by decide) (fun c_75 => ?_) (fun c_75 => ?_)
                · refine lv_iconst (v := 0) hx hb dX7_rule_82 (by decide) ?_
                  refine lv_goto (tgt := 90) hx hb dX7_rule_83 (by decide) ?_
                  refine va_put (D := D) (ci := 7) (v := .int 0) (ty := .boolean) (C := RX7) (T := TX7) (N := 34) hx hb hts hi_7 tyX7 tyX7_ok nmX7 hown hK hP hD hS 0 rfl rfl 7 (by decide) hf_92 (fun _ h9 => h9) rfl (by decide +kernel) rfl rfl (Nat.le_of_ble_eq_true rfl) dX7_rule_90 (fun H locs hP hD hS => ?_)
                  have hP : va_P D vwCl [(mo, .inr (7, moV (nI nn) (nI mm) me mj mw mp mu 0 bd ml (nI sq) mq fi gu le cs (zb (ba = true)) ov m1 m2 m3 m4 lk (zb (sp = true)) bs bo m5 m6 m7 su sl m8 lo sh))] H := hP
                  have hD : va_D A [(mo, .inr (7, moV (nI nn) (nI mm) me mj mw mp mu 0 bd ml (nI sq) mq fi gu le cs (zb (ba = true)) ov m1 m2 m3 m4 lk (zb (sp = true)) bs bo m5 m6 m7 su sl m8 lo sh))] := hD
                  refine lv_aload_n hx hb dX7_rule_93 rfl (lv_at hl 1 rfl) ?_
                  refine lv_iload_n hx hb dX7_rule_94 rfl (lv_at hl 2 rfl) ?_
                  refine lv_iconst (v := 1) hx hb dX7_rule_95 (by decide) ?_
                  refine lv_icmp_ne (tgt := 103) hx hb dX7_rule_96 (by decide) (fun c_96 => ?_) (fun c_96 => ?_)
                  · refine lv_aload_n hx hb dX7_rule_103 rfl (lv_at hl 1 rfl) ?_
                    refine va_get (D := D) (ci := 7) (v := .int bd) (C := RX7) (T := TX7) (N := 34) hx hb hts hi_7 hown hK hP 0 rfl rfl 8 (by decide) hf_29 (fun _ h9 => h9) rfl dX7_rule_104 ?_
                    refine va_put (D := D) (ci := 7) (v := .int bd) (ty := .int) (C := RX7) (T := TX7) (N := 34) hx hb hts hi_7 tyX7 tyX7_ok nmX7 hown hK hP hD hS 0 rfl rfl 8 (by decide) hf_29 (fun _ h9 => h9) rfl (by decide +kernel) rfl rfl (Nat.le_of_ble_eq_true rfl) dX7_rule_107 (fun H locs hP hD hS => ?_)
                    have hP : va_P D vwCl [(mo, .inr (7, moV (nI nn) (nI mm) me mj mw mp mu 0 bd ml (nI sq) mq fi gu le cs (zb (ba = true)) ov m1 m2 m3 m4 lk (zb (sp = true)) bs bo m5 m6 m7 su sl m8 lo sh))] H := hP
                    have hD : va_D A [(mo, .inr (7, moV (nI nn) (nI mm) me mj mw mp mu 0 bd ml (nI sq) mq fi gu le cs (zb (ba = true)) ov m1 m2 m3 m4 lk (zb (sp = true)) bs bo m5 m6 m7 su sl m8 lo sh))] := hD
                    refine lv_iload_n hx hb dX7_rule_110 rfl (lv_at hl 0 rfl) ?_
                    exact endMI () hx hb hr hlocks hA hQ hS hP dX7_rule_111 (by have hr : ruleM ke bd what v = (1, false, bd) := (by rw [ruleM, if_pos c_7, if_pos c_13, if_pos c_37, if_pos c_52, decide_eq_false c_75]); first | (rw [hr]; done) | (rw [hr]; rfl)) (by have hr : ruleM ke bd what v = (1, false, bd) := (by rw [ruleM, if_pos c_7, if_pos c_13, if_pos c_37, if_pos c_52, decide_eq_false c_75]); first | (rw [hr]; done) | (rw [hr]; rfl))
                  · exact absurd (c_96.symm.trans c_13) (by decide)
                · refine lv_iconst (v := 1) hx hb dX7_rule_78 (by decide) ?_
                  refine lv_goto (tgt := 90) hx hb dX7_rule_79 (by decide) ?_
                  refine va_put (D := D) (ci := 7) (v := .int 1) (ty := .boolean) (C := RX7) (T := TX7) (N := 34) hx hb hts hi_7 tyX7 tyX7_ok nmX7 hown hK hP hD hS 0 rfl rfl 7 (by decide) hf_92 (fun _ h9 => h9) rfl (by decide +kernel) rfl rfl (Nat.le_of_ble_eq_true rfl) dX7_rule_90 (fun H locs hP hD hS => ?_)
                  have hP : va_P D vwCl [(mo, .inr (7, moV (nI nn) (nI mm) me mj mw mp mu 1 bd ml (nI sq) mq fi gu le cs (zb (ba = true)) ov m1 m2 m3 m4 lk (zb (sp = true)) bs bo m5 m6 m7 su sl m8 lo sh))] H := hP
                  have hD : va_D A [(mo, .inr (7, moV (nI nn) (nI mm) me mj mw mp mu 1 bd ml (nI sq) mq fi gu le cs (zb (ba = true)) ov m1 m2 m3 m4 lk (zb (sp = true)) bs bo m5 m6 m7 su sl m8 lo sh))] := hD
                  refine lv_aload_n hx hb dX7_rule_93 rfl (lv_at hl 1 rfl) ?_
                  refine lv_iload_n hx hb dX7_rule_94 rfl (lv_at hl 2 rfl) ?_
                  refine lv_iconst (v := 1) hx hb dX7_rule_95 (by decide) ?_
                  refine lv_icmp_ne (tgt := 103) hx hb dX7_rule_96 (by decide) (fun c_96 => ?_) (fun c_96 => ?_)
                  · refine lv_aload_n hx hb dX7_rule_103 rfl (lv_at hl 1 rfl) ?_
                    refine va_get (D := D) (ci := 7) (v := .int bd) (C := RX7) (T := TX7) (N := 34) hx hb hts hi_7 hown hK hP 0 rfl rfl 8 (by decide) hf_29 (fun _ h9 => h9) rfl dX7_rule_104 ?_
                    refine va_put (D := D) (ci := 7) (v := .int bd) (ty := .int) (C := RX7) (T := TX7) (N := 34) hx hb hts hi_7 tyX7 tyX7_ok nmX7 hown hK hP hD hS 0 rfl rfl 8 (by decide) hf_29 (fun _ h9 => h9) rfl (by decide +kernel) rfl rfl (Nat.le_of_ble_eq_true rfl) dX7_rule_107 (fun H locs hP hD hS => ?_)
                    have hP : va_P D vwCl [(mo, .inr (7, moV (nI nn) (nI mm) me mj mw mp mu 1 bd ml (nI sq) mq fi gu le cs (zb (ba = true)) ov m1 m2 m3 m4 lk (zb (sp = true)) bs bo m5 m6 m7 su sl m8 lo sh))] H := hP
                    have hD : va_D A [(mo, .inr (7, moV (nI nn) (nI mm) me mj mw mp mu 1 bd ml (nI sq) mq fi gu le cs (zb (ba = true)) ov m1 m2 m3 m4 lk (zb (sp = true)) bs bo m5 m6 m7 su sl m8 lo sh))] := hD
                    refine lv_iload_n hx hb dX7_rule_110 rfl (lv_at hl 0 rfl) ?_
                    exact endMI () hx hb hr hlocks hA hQ hS hP dX7_rule_111 (by have hr : ruleM ke bd what v = (1, true, bd) := (by rw [ruleM, if_pos c_7, if_pos c_13, if_pos c_37, if_pos c_52, decide_eq_true c_75]); first | (rw [hr]; done) | (rw [hr]; rfl)) (by have hr : ruleM ke bd what v = (1, true, bd) := (by rw [ruleM, if_pos c_7, if_pos c_13, if_pos c_37, if_pos c_52, decide_eq_true c_75]); first | (rw [hr]; done) | (rw [hr]; rfl))
                  · exact absurd (c_96.symm.trans c_13) (by decide)
        · refine lv_sipush (v := (-1002)) hx hb dX7_rule_40 (by decide) ?_
          exact endMI () hx hb hr hlocks hA hQ hS hP dX7_rule_43 (by have hr : ruleM ke bd what v = (-1002, ke, bd) := (by rw [ruleM, if_pos c_7, if_pos c_13, if_neg c_37]); first | (rw [hr]; done) | (rw [hr]; rfl)) (by have hr : ruleM ke bd what v = (-1002, ke, bd) := (by rw [ruleM, if_pos c_7, if_pos c_13, if_neg c_37]); first | (rw [hr]; done) | (rw [hr]; rfl))
def rmX7_run : Room := { frames := 3, cells := 0, slots := 0, locals := 66 }
theorem kdX7_run : yX7_run.cls = RX7 ∧ yX7_run.cls ≠ "java/lang/invoke/MethodHandle" ∧ yX7_run.cls ≠ "java/lang/invoke/VarHandle" ∧ (parseMethodDescriptor yX7_run.desc).map (fun d => d.parameters.length) = some 0 := ⟨rfl, by decide +kernel, by decide +kernel, by decide +kernel⟩
set_option maxRecDepth 100000 in
set_option maxHeartbeats 1000000 in
theorem kX7_run (l : Launch) (D : va_G) (cI cJ : ClassId) (mo : Nat) (nn : Nat) (mm : Nat) (me : Nat) (mj : Nat) (mw : Nat) (mp : Nat) (mu : Nat) (ke : Bool) (bd : Int32) (ml : Nat) (sq : Nat) (mq : Nat) (fi : Int32) (gu : Int32) (le : Int32) (cs : Int32) (ba : Bool) (ov : Int32) (m1 : Nat) (m2 : Nat) (m3 : Nat) (m4 : Nat) (lk : Int32) (sp : Bool) (bs : Int32) (bo : Int32) (m5 : Nat) (m6 : Nat) (m7 : Nat) (su : Int32) (sl : Int32) (m8 : Nat) (lo : Int32) (sh : Int32) (wa : Row) (bb : Row) (w : Nat) (y : RBt) (hw : w = 61) (hsq : sq ≤ 40) (hW : WallOK wa sq) (hy : y = runA w wa sq (run0 bb) 24) : Met l yX7_run wsX7_run rmX7_run (mPre D cI cJ [.ref mo] [(mo, .inr (7, moV (nI nn) (nI mm) me mj mw mp mu (zb (ke = true)) bd ml (nI sq) mq fi gu le cs (zb (ba = true)) ov m1 m2 m3 m4 lk (zb (sp = true)) bs bo m5 m6 m7 su sl m8 lo sh)), (mq, .inl (cI, 120, .inl wa)), (m8, .inl (cI, 3721, .inl bb))]) (mQv D (fun (_ : Unit) => True) (fun (_ : Unit) => [(mo, .inr (7, moV (nI nn) (nI mm) me mj mw mp mu (zb (ke = true)) bd ml (nI sq) mq fi gu le cs (zb (ba = true)) ov m1 m2 m3 m4 lk (zb (sp = true)) bs bo m5 m6 m7 su sl m8 y.2.1 y.2.2)), (mq, .inl (cI, 120, .inl wa)), (m8, .inl (cI, 3721, .inl y.1))]) [(mo, .inr (7, moV (nI nn) (nI mm) me mj mw mp mu (zb (ke = true)) bd ml (nI sq) mq fi gu le cs (zb (ba = true)) ov m1 m2 m3 m4 lk (zb (sp = true)) bs bo m5 m6 m7 su sl m8 lo sh)), (mq, .inl (cI, 120, .inl wa)), (m8, .inl (cI, 3721, .inl bb))]) 0 0 (mA [(mo, .inr (7, moV (nI nn) (nI mm) me mj mw mp mu (zb (ke = true)) bd ml (nI sq) mq fi gu le cs (zb (ba = true)) ov m1 m2 m3 m4 lk (zb (sp = true)) bs bo m5 m6 m7 su sl m8 lo sh)), (mq, .inl (cI, 120, .inl wa)), (m8, .inl (cI, 3721, .inl bb))]) := by
  refine startM (cc := cX7_run) (maxL := 2) (ret := none) (by decide) rfl (Nat.le_of_ble_eq_true rfl) ?_
  intro p e s m args below meth c ls Q A hA hQ hx hb hr hlocks hml hown hts hK hN hP hD hl hin
  have hown : s.vm.findClass RX7 = some m.cls := hown
  have hi_7 : ∀ w ∈ wsX70, w ∈ wsX7_run := by decide +kernel
  have hf_59 := hts (.fieldLink RX7 59 "FireNetsModel" "board" "[I") (by decide +kernel)
  have hf_239 := hts (.fieldLink RX7 239 "FireNetsModel" "lost" "I") (by decide +kernel)
  have hf_246 := hts (.fieldLink RX7 246 "FireNetsModel" "shutAt" "I") (by decide +kernel)
  have hS : va_S A s.heap s.heap [] := va_S.rf
  have hl : lv_has ls 2 [(0, .ref mo)] := hl
  have hP : va_P D vwCl [(mo, .inr (7, moV (nI nn) (nI mm) me mj mw mp mu (zb (ke = true)) bd ml (nI sq) mq fi gu le cs (zb (ba = true)) ov m1 m2 m3 m4 lk (zb (sp = true)) bs bo m5 m6 m7 su sl m8 lo sh)), (mq, .inl (cI, 120, .inl wa)), (m8, .inl (cI, 3721, .inl bb))] s.heap := hP
  refine lv_iconst (v := 0) hx hb dX7_run_0 (by decide) ?_
  refine lv_istore_n (lv' := [(1, .int 0), (0, .ref mo)]) hx hb dX7_run_1 rfl hl (by decide) rfl (fun ls hl => ?_)
  have fl : ∀ (fu : Nat) (k : Nat), (k ≤ 3721) → 3721 - k < fu → ∀ (ls : Array Slot) (H : Heap) (locs : List Loc), lv_has ls 2 [(0, .ref mo), (1, .int (nI k))] → va_P D vwCl [(mo, .inr (7, moV (nI nn) (nI mm) me mj mw mp mu (zb (ke = true)) bd ml (nI sq) mq fi gu le cs (zb (ba = true)) ov m1 m2 m3 m4 lk (zb (sp = true)) bs bo m5 m6 m7 su sl m8 lo sh)), (mq, .inl (cI, 120, .inl wa)), (m8, .inl (cI, 3721, .inl (fillF bb 0 k)))] H → va_D A [(mo, .inr (7, moV (nI nn) (nI mm) me mj mw mp mu (zb (ke = true)) bd ml (nI sq) mq fi gu le cs (zb (ba = true)) ov m1 m2 m3 m4 lk (zb (sp = true)) bs bo m5 m6 m7 su sl m8 lo sh)), (mq, .inl (cI, 120, .inl wa)), (m8, .inl (cI, 3721, .inl (fillF bb 0 k)))] → va_S A s.heap H locs → W p l e rmX7_run s m args below meth c H locs 0 0 Q (F0 m 2 ls []) := by
    intro fu
    induction fu with
    | zero => intro k hk hf; exact absurd hf (Nat.not_lt_zero _)
    | succ fu ih_fl =>
      intro k hk hf ls H locs hl hP hD hS
      refine lv_iload_n hx hb dX7_run_2 rfl (lv_at hl 1 rfl) ?_
      refine lv_sipush (v := 3721) hx hb dX7_run_3 (by decide) ?_
      refine r_icmp_ge (tgt := 22) hx hb k 3721 dX7_run_6 (by decide) rfl rfl (by omega) (by omega) (fun c_6 => ?_) (fun c_6 => ?_)
      · refine lv_aload_n hx hb dX7_run_22 rfl (lv_at hl 0 rfl) ?_
        refine va_get (D := D) (ci := 7) (v := .ref m8) (C := RX7) (T := TX7) (N := 34) hx hb hts hi_7 hown hK hP 0 rfl rfl 31 (by decide) hf_59 (fun _ h9 => h9) rfl dX7_run_23 ?_
        refine lv_iconst (v := 0) hx hb dX7_run_26 (by decide) ?_
        refine lv_iconst (v := 0) hx hb dX7_run_27 (by decide) ?_
        refine goRI hP hS (va_runS (As := [.int 0, .int 0]) (rest := [.ref m8]) ⟨hx, hb, hml, hown, hts⟩ (kX7_square l D cI cJ 0 0) (va_cwS 2 hts gX7_run_X7_square rfl rfl rfl kdX7_square.2 ⟨Nat.le_of_ble_eq_true rfl, Nat.le_of_ble_eq_true rfl⟩) (preR hK hN hP [] rfl) rfl rfl hl.1 rfl (lv_room (Nat.le_of_ble_eq_true rfl)) dX7_run_28 ⟨Nat.zero_le _, Nat.zero_le _⟩) (fun H locs hP hS => ?_)
        refine lv_iconst (v := 1) hx hb dX7_run_31 (by decide) ?_
        refine r_iast hx hb hK hP hD hS 2 rfl 1860 (by decide) (by decide) (by decide) dX7_run_32 (fun H locs hP hD hS => ?_)
        have hP : va_P D vwCl [(mo, .inr (7, moV (nI nn) (nI mm) me mj mw mp mu (zb (ke = true)) bd ml (nI sq) mq fi gu le cs (zb (ba = true)) ov m1 m2 m3 m4 lk (zb (sp = true)) bs bo m5 m6 m7 su sl m8 lo sh)), (mq, .inl (cI, 120, .inl wa)), (m8, .inl (cI, 3721, .inl (upd (fillF bb 0 k) 1860 1)))] H := hP
        have hD : va_D A [(mo, .inr (7, moV (nI nn) (nI mm) me mj mw mp mu (zb (ke = true)) bd ml (nI sq) mq fi gu le cs (zb (ba = true)) ov m1 m2 m3 m4 lk (zb (sp = true)) bs bo m5 m6 m7 su sl m8 lo sh)), (mq, .inl (cI, 120, .inl wa)), (m8, .inl (cI, 3721, .inl (upd (fillF bb 0 k) 1860 1)))] := hD
        refine lv_aload_n hx hb dX7_run_33 rfl (lv_at hl 0 rfl) ?_
        refine lv_iconst (v := 0) hx hb dX7_run_34 (by decide) ?_
        refine va_put (D := D) (ci := 7) (v := .int 0) (ty := .int) (C := RX7) (T := TX7) (N := 34) hx hb hts hi_7 tyX7 tyX7_ok nmX7 hown hK hP hD hS 0 rfl rfl 32 (by decide) hf_239 (fun _ h9 => h9) rfl (by decide +kernel) rfl rfl (Nat.le_of_ble_eq_true rfl) dX7_run_35 (fun H locs hP hD hS => ?_)
        have hP : va_P D vwCl [(mo, .inr (7, moV (nI nn) (nI mm) me mj mw mp mu (zb (ke = true)) bd ml (nI sq) mq fi gu le cs (zb (ba = true)) ov m1 m2 m3 m4 lk (zb (sp = true)) bs bo m5 m6 m7 su sl m8 0 sh)), (mq, .inl (cI, 120, .inl wa)), (m8, .inl (cI, 3721, .inl (upd (fillF bb 0 k) 1860 1)))] H := hP
        have hD : va_D A [(mo, .inr (7, moV (nI nn) (nI mm) me mj mw mp mu (zb (ke = true)) bd ml (nI sq) mq fi gu le cs (zb (ba = true)) ov m1 m2 m3 m4 lk (zb (sp = true)) bs bo m5 m6 m7 su sl m8 0 sh)), (mq, .inl (cI, 120, .inl wa)), (m8, .inl (cI, 3721, .inl (upd (fillF bb 0 k) 1860 1)))] := hD
        refine lv_aload_n hx hb dX7_run_38 rfl (lv_at hl 0 rfl) ?_
        refine lv_iconst (v := (-1)) hx hb dX7_run_39 (by decide) ?_
        refine va_put (D := D) (ci := 7) (v := .int (-1)) (ty := .int) (C := RX7) (T := TX7) (N := 34) hx hb hts hi_7 tyX7 tyX7_ok nmX7 hown hK hP hD hS 0 rfl rfl 33 (by decide) hf_246 (fun _ h9 => h9) rfl (by decide +kernel) rfl rfl (Nat.le_of_ble_eq_true rfl) dX7_run_40 (fun H locs hP hD hS => ?_)
        have hP : va_P D vwCl [(mo, .inr (7, moV (nI nn) (nI mm) me mj mw mp mu (zb (ke = true)) bd ml (nI sq) mq fi gu le cs (zb (ba = true)) ov m1 m2 m3 m4 lk (zb (sp = true)) bs bo m5 m6 m7 su sl m8 0 (-1))), (mq, .inl (cI, 120, .inl wa)), (m8, .inl (cI, 3721, .inl (upd (fillF bb 0 k) 1860 1)))] H := hP
        have hD : va_D A [(mo, .inr (7, moV (nI nn) (nI mm) me mj mw mp mu (zb (ke = true)) bd ml (nI sq) mq fi gu le cs (zb (ba = true)) ov m1 m2 m3 m4 lk (zb (sp = true)) bs bo m5 m6 m7 su sl m8 0 (-1))), (mq, .inl (cI, 120, .inl wa)), (m8, .inl (cI, 3721, .inl (upd (fillF bb 0 k) 1860 1)))] := hD
        refine lv_iconst (v := 1) hx hb dX7_run_43 (by decide) ?_
        refine lv_istore_n (lv' := [(1, .int 1), (0, .ref mo)]) hx hb dX7_run_44 rfl hl (by decide) rfl (fun ls hl => ?_)
        have lp : ∀ (fu : Nat) (k : Nat), (k ≤ 24) → 24 - k < fu → ∀ (ls : Array Slot) (H : Heap) (locs : List Loc), lv_has ls 2 [(0, .ref mo), (1, .int (nI (k + 1)))] → va_P D vwCl [(mo, .inr (7, moV (nI nn) (nI mm) me mj mw mp mu (zb (ke = true)) bd ml (nI sq) mq fi gu le cs (zb (ba = true)) ov m1 m2 m3 m4 lk (zb (sp = true)) bs bo m5 m6 m7 su sl m8 ((runA w wa sq (run0 bb) k).2.1) ((runA w wa sq (run0 bb) k).2.2))), (mq, .inl (cI, 120, .inl wa)), (m8, .inl (cI, 3721, .inl ((runA w wa sq (run0 bb) k).1)))] H → va_D A [(mo, .inr (7, moV (nI nn) (nI mm) me mj mw mp mu (zb (ke = true)) bd ml (nI sq) mq fi gu le cs (zb (ba = true)) ov m1 m2 m3 m4 lk (zb (sp = true)) bs bo m5 m6 m7 su sl m8 ((runA w wa sq (run0 bb) k).2.1) ((runA w wa sq (run0 bb) k).2.2))), (mq, .inl (cI, 120, .inl wa)), (m8, .inl (cI, 3721, .inl ((runA w wa sq (run0 bb) k).1)))] → va_S A s.heap H locs → W p l e rmX7_run s m args below meth c H locs 0 0 Q (F0 m 45 ls []) := by
          intro fu
          induction fu with
          | zero => intro k hk hf; exact absurd hf (Nat.not_lt_zero _)
          | succ fu ih_lp =>
            intro k hk hf ls H locs hl hP hD hS
            refine lv_iload_n hx hb dX7_run_45 rfl (lv_at hl 1 rfl) ?_
            refine lv_bipush (v := 24) hx hb dX7_run_46 (by decide) ?_
            refine r_icmp_gt (tgt := 85) hx hb (k + 1) 24 dX7_run_48 (by decide) rfl rfl (by omega) (by omega) (fun c_48 => ?_) (fun c_48 => ?_)
            · exact endMV () hx hb hr hlocks hA hQ hS hP dX7_run_85 (by rw [hy, show k = 24 by omega]) trivial
            · refine lv_aload_n hx hb dX7_run_51 rfl (lv_at hl 0 rfl) ?_
              refine va_get (D := D) (ci := 7) (v := .int ((runA w wa sq (run0 bb) k).2.2)) (C := RX7) (T := TX7) (N := 34) hx hb hts hi_7 hown hK hP 0 rfl rfl 33 (by decide) hf_246 (fun _ h9 => h9) rfl dX7_run_52 ?_
              refine lv_if_ge (tgt := 85) hx hb dX7_run_55 (by decide) (fun c_55 => ?_) (fun c_55 => ?_)
              · exact endMV () hx hb hr hlocks hA hQ hS hP dX7_run_85 (by rw [hy, show 24 = k + (24 - k) by omega, runA_stop (i_nlt c_55)]) trivial
              · refine lv_aload_n hx hb dX7_run_58 rfl (lv_at hl 0 rfl) ?_
                refine lv_iload_n hx hb dX7_run_59 rfl (lv_at hl 1 rfl) ?_
                refine goMV hP hD hS (va_runV (As := [.int (nI (k + 1))]) (rest := []) ⟨hx, hb, hml, hown, hts⟩ (kX7_build l D cI cJ mo nn mm me mj mw mp mu ke bd ml sq mq fi gu le cs ba ov m1 m2 m3 m4 lk sp bs bo m5 m6 m7 su sl m8 ((runA w wa sq (run0 bb) k).2.1) ((runA w wa sq (run0 bb) k).2.2) wa ((runA w wa sq (run0 bb) k).1) (k + 1) hsq hW) (cwV 1 hts gX7_run_X7_build rfl rfl rfl kdX7_build ⟨Nat.le_of_ble_eq_true rfl, Nat.le_of_ble_eq_true rfl⟩) (preMV hK hN hP hD 0 (ci := 7) rfl rfl rfl [0, 1, 2] rfl (by decide)) rfl rfl hl.1 rfl (lv_room (Nat.le_of_ble_eq_true rfl)) dX7_run_60 ⟨Nat.zero_le _, Nat.zero_le _⟩) [0, 1, 2] rfl (by decide) (fun _ => (show ([mo, mq, m8] : List Nat) = [mo, mq, m8] from rfl)) (fun _ H locs hp_60 hP hD hS => ?_)
                have hP : va_P D vwCl [(mo, .inr (7, moV (nI nn) (nI mm) me mj mw mp mu (zb (ke = true)) bd ml (nI sq) mq fi gu le cs (zb (ba = true)) ov m1 m2 m3 m4 lk (zb (sp = true)) bs bo m5 m6 m7 su sl m8 ((bldA wa (nI (k + 1)) (((runA w wa sq (run0 bb) k).1), ((runA w wa sq (run0 bb) k).2.1)) sq).2) ((runA w wa sq (run0 bb) k).2.2))), (mq, .inl (cI, 120, .inl wa)), (m8, .inl (cI, 3721, .inl ((bldA wa (nI (k + 1)) (((runA w wa sq (run0 bb) k).1), ((runA w wa sq (run0 bb) k).2.1)) sq).1)))] H := hP
                have hD : va_D A [(mo, .inr (7, moV (nI nn) (nI mm) me mj mw mp mu (zb (ke = true)) bd ml (nI sq) mq fi gu le cs (zb (ba = true)) ov m1 m2 m3 m4 lk (zb (sp = true)) bs bo m5 m6 m7 su sl m8 ((bldA wa (nI (k + 1)) (((runA w wa sq (run0 bb) k).1), ((runA w wa sq (run0 bb) k).2.1)) sq).2) ((runA w wa sq (run0 bb) k).2.2))), (mq, .inl (cI, 120, .inl wa)), (m8, .inl (cI, 3721, .inl ((bldA wa (nI (k + 1)) (((runA w wa sq (run0 bb) k).1), ((runA w wa sq (run0 bb) k).2.1)) sq).1)))] := hD
                refine lv_aload_n hx hb dX7_run_63 rfl (lv_at hl 0 rfl) ?_
                refine lv_aload_n hx hb dX7_run_64 rfl (lv_at hl 0 rfl) ?_
                refine goMI hP hD hS (va_runV (As := []) (rest := [.ref mo]) ⟨hx, hb, hml, hown, hts⟩ (kX7_burnOn l D cI cJ mo nn mm me mj mw mp mu ke bd ml sq mq fi gu le cs ba ov m1 m2 m3 m4 lk sp bs bo m5 m6 m7 su sl m8 ((bldA wa (nI (k + 1)) (((runA w wa sq (run0 bb) k).1), ((runA w wa sq (run0 bb) k).2.1)) sq).2) ((runA w wa sq (run0 bb) k).2.2) ((bldA wa (nI (k + 1)) (((runA w wa sq (run0 bb) k).1), ((runA w wa sq (run0 bb) k).2.1)) sq).1) w hw) (cwV 0 hts gX7_run_X7_burnOn rfl rfl rfl kdX7_burnOn ⟨Nat.le_of_ble_eq_true rfl, Nat.le_of_ble_eq_true rfl⟩) (preMV hK hN hP hD 0 (ci := 7) rfl rfl rfl [0, 2] rfl (by decide)) rfl rfl hl.1 rfl (lv_room (Nat.le_of_ble_eq_true rfl)) dX7_run_65 ⟨Nat.zero_le _, Nat.zero_le _⟩) [0, 2] rfl (by decide) (fun _ => (show ([mo, m8] : List Nat) = [mo, m8] from rfl)) (fun r_65 _ H locs hp_65 hP hD hS => ?_)
                have hP : va_P D vwCl [(mo, .inr (7, moV (nI nn) (nI mm) me mj mw mp mu (zb (ke = true)) bd ml (nI sq) mq fi gu le cs (zb (ba = true)) ov m1 m2 m3 m4 lk (zb (sp = true)) bs bo m5 m6 m7 su sl m8 ((bldA wa (nI (k + 1)) (((runA w wa sq (run0 bb) k).1), ((runA w wa sq (run0 bb) k).2.1)) sq).2) ((runA w wa sq (run0 bb) k).2.2))), (mq, .inl (cI, 120, .inl wa)), (m8, .inl (cI, 3721, .inl (oneF (byA w (((bldA wa (nI (k + 1)) (((runA w wa sq (run0 bb) k).1), ((runA w wa sq (run0 bb) k).2.1)) sq).1), false) w).1 3721)))] H := hP
                have hD : va_D A [(mo, .inr (7, moV (nI nn) (nI mm) me mj mw mp mu (zb (ke = true)) bd ml (nI sq) mq fi gu le cs (zb (ba = true)) ov m1 m2 m3 m4 lk (zb (sp = true)) bs bo m5 m6 m7 su sl m8 ((bldA wa (nI (k + 1)) (((runA w wa sq (run0 bb) k).1), ((runA w wa sq (run0 bb) k).2.1)) sq).2) ((runA w wa sq (run0 bb) k).2.2))), (mq, .inl (cI, 120, .inl wa)), (m8, .inl (cI, 3721, .inl (oneF (byA w (((bldA wa (nI (k + 1)) (((runA w wa sq (run0 bb) k).1), ((runA w wa sq (run0 bb) k).2.1)) sq).1), false) w).1 3721)))] := hD
                obtain rfl := hp_65
                refine r_zeq (tgt := 75) hx hb dX7_run_68 (by decide) (fun c_68 => ?_) (fun c_68 => ?_)
                · refine lv_iload_n hx hb dX7_run_75 rfl (lv_at hl 1 rfl) ?_
                  refine va_put (D := D) (ci := 7) (v := .int (nI (k + 1))) (ty := .int) (C := RX7) (T := TX7) (N := 34) hx hb hts hi_7 tyX7 tyX7_ok nmX7 hown hK hP hD hS 0 rfl rfl 33 (by decide) hf_246 (fun _ h9 => h9) rfl (by decide +kernel) rfl rfl (Nat.le_of_ble_eq_true rfl) dX7_run_76 (fun H locs hP hD hS => ?_)
                  have hP : va_P D vwCl [(mo, .inr (7, moV (nI nn) (nI mm) me mj mw mp mu (zb (ke = true)) bd ml (nI sq) mq fi gu le cs (zb (ba = true)) ov m1 m2 m3 m4 lk (zb (sp = true)) bs bo m5 m6 m7 su sl m8 ((bldA wa (nI (k + 1)) (((runA w wa sq (run0 bb) k).1), ((runA w wa sq (run0 bb) k).2.1)) sq).2) (nI (k + 1)))), (mq, .inl (cI, 120, .inl wa)), (m8, .inl (cI, 3721, .inl (oneF (byA w (((bldA wa (nI (k + 1)) (((runA w wa sq (run0 bb) k).1), ((runA w wa sq (run0 bb) k).2.1)) sq).1), false) w).1 3721)))] H := hP
                  have hD : va_D A [(mo, .inr (7, moV (nI nn) (nI mm) me mj mw mp mu (zb (ke = true)) bd ml (nI sq) mq fi gu le cs (zb (ba = true)) ov m1 m2 m3 m4 lk (zb (sp = true)) bs bo m5 m6 m7 su sl m8 ((bldA wa (nI (k + 1)) (((runA w wa sq (run0 bb) k).1), ((runA w wa sq (run0 bb) k).2.1)) sq).2) (nI (k + 1)))), (mq, .inl (cI, 120, .inl wa)), (m8, .inl (cI, 3721, .inl (oneF (byA w (((bldA wa (nI (k + 1)) (((runA w wa sq (run0 bb) k).1), ((runA w wa sq (run0 bb) k).2.1)) sq).1), false) w).1 3721)))] := hD
                  refine r_iinc (lv' := [(1, .int (nI ((k + 1) + 1))), (0, .ref mo)]) hx hb 1 (k + 1) dX7_run_79 hl rfl (by decide) rfl (fun ls hl => ?_)
                  refine lv_goto (tgt := 45) hx hb dX7_run_82 (by decide) ?_
                  exact ih_lp (k + 1) (by omega) (by omega) ls _ _ (lv_sub hl [1, 0] rfl) (by rw [runA, if_pos (i_le c_55), runS, if_neg c_68]; exact hP) (by rw [runA, if_pos (i_le c_55), runS, if_neg c_68]; exact hD) hS
                · refine lv_iconst (v := (-1)) hx hb dX7_run_71 (by decide) ?_
                  refine lv_goto (tgt := 76) hx hb dX7_run_72 (by decide) ?_
                  refine va_put (D := D) (ci := 7) (v := .int (-1)) (ty := .int) (C := RX7) (T := TX7) (N := 34) hx hb hts hi_7 tyX7 tyX7_ok nmX7 hown hK hP hD hS 0 rfl rfl 33 (by decide) hf_246 (fun _ h9 => h9) rfl (by decide +kernel) rfl rfl (Nat.le_of_ble_eq_true rfl) dX7_run_76 (fun H locs hP hD hS => ?_)
                  have hP : va_P D vwCl [(mo, .inr (7, moV (nI nn) (nI mm) me mj mw mp mu (zb (ke = true)) bd ml (nI sq) mq fi gu le cs (zb (ba = true)) ov m1 m2 m3 m4 lk (zb (sp = true)) bs bo m5 m6 m7 su sl m8 ((bldA wa (nI (k + 1)) (((runA w wa sq (run0 bb) k).1), ((runA w wa sq (run0 bb) k).2.1)) sq).2) (-1))), (mq, .inl (cI, 120, .inl wa)), (m8, .inl (cI, 3721, .inl (oneF (byA w (((bldA wa (nI (k + 1)) (((runA w wa sq (run0 bb) k).1), ((runA w wa sq (run0 bb) k).2.1)) sq).1), false) w).1 3721)))] H := hP
                  have hD : va_D A [(mo, .inr (7, moV (nI nn) (nI mm) me mj mw mp mu (zb (ke = true)) bd ml (nI sq) mq fi gu le cs (zb (ba = true)) ov m1 m2 m3 m4 lk (zb (sp = true)) bs bo m5 m6 m7 su sl m8 ((bldA wa (nI (k + 1)) (((runA w wa sq (run0 bb) k).1), ((runA w wa sq (run0 bb) k).2.1)) sq).2) (-1))), (mq, .inl (cI, 120, .inl wa)), (m8, .inl (cI, 3721, .inl (oneF (byA w (((bldA wa (nI (k + 1)) (((runA w wa sq (run0 bb) k).1), ((runA w wa sq (run0 bb) k).2.1)) sq).1), false) w).1 3721)))] := hD
                  refine r_iinc (lv' := [(1, .int (nI ((k + 1) + 1))), (0, .ref mo)]) hx hb 1 (k + 1) dX7_run_79 hl rfl (by decide) rfl (fun ls hl => ?_)
                  refine lv_goto (tgt := 45) hx hb dX7_run_82 (by decide) ?_
                  exact ih_lp (k + 1) (by omega) (by omega) ls _ _ (lv_sub hl [1, 0] rfl) (by rw [runA, if_pos (i_le c_55), runS, if_pos c_68]; exact hP) (by rw [runA, if_pos (i_le c_55), runS, if_pos c_68]; exact hD) hS
        have ek : k = 3721 := by omega
        exact lp _ 0 (by omega) (Nat.lt_succ_self _) ls _ _ (lv_sub hl [1, 0] rfl) (by rw [ek] at hP; exact hP) (by rw [ek] at hD; exact hD) hS
      · refine lv_aload_n hx hb dX7_run_9 rfl (lv_at hl 0 rfl) ?_
        refine va_get (D := D) (ci := 7) (v := .ref m8) (C := RX7) (T := TX7) (N := 34) hx hb hts hi_7 hown hK hP 0 rfl rfl 31 (by decide) hf_59 (fun _ h9 => h9) rfl dX7_run_10 ?_
        refine lv_iload_n hx hb dX7_run_13 rfl (lv_at hl 1 rfl) ?_
        refine lv_iconst (v := 0) hx hb dX7_run_14 (by decide) ?_
        refine r_iast hx hb hK hP hD hS 2 rfl k rfl (by omega) (by omega) dX7_run_15 (fun H locs hP hD hS => ?_)
        have hP : va_P D vwCl [(mo, .inr (7, moV (nI nn) (nI mm) me mj mw mp mu (zb (ke = true)) bd ml (nI sq) mq fi gu le cs (zb (ba = true)) ov m1 m2 m3 m4 lk (zb (sp = true)) bs bo m5 m6 m7 su sl m8 lo sh)), (mq, .inl (cI, 120, .inl wa)), (m8, .inl (cI, 3721, .inl (upd (fillF bb 0 k) k 0)))] H := hP
        have hD : va_D A [(mo, .inr (7, moV (nI nn) (nI mm) me mj mw mp mu (zb (ke = true)) bd ml (nI sq) mq fi gu le cs (zb (ba = true)) ov m1 m2 m3 m4 lk (zb (sp = true)) bs bo m5 m6 m7 su sl m8 lo sh)), (mq, .inl (cI, 120, .inl wa)), (m8, .inl (cI, 3721, .inl (upd (fillF bb 0 k) k 0)))] := hD
        refine r_iinc (lv' := [(1, .int (nI (k + 1))), (0, .ref mo)]) hx hb 1 k dX7_run_16 hl rfl (by decide) rfl (fun ls hl => ?_)
        refine lv_goto (tgt := 2) hx hb dX7_run_19 (by decide) ?_
        exact ih_fl (k + 1) (by omega) (by omega) ls _ _ (lv_sub hl [1, 0] rfl) (by rw [fillF_S]; exact hP) (by rw [fillF_S]; exact hD) hS
  exact fl _ 0 (by omega) (Nat.lt_succ_self _) ls _ _ (lv_sub hl [1, 0] rfl) (by rw [fillF_0]; exact hP) (by rw [fillF_0]; exact hD) hS
def rmX7_board : Room := { frames := 4, cells := 0, slots := 0, locals := 87 }
theorem kdX7_board : yX7_board.cls = RX7 ∧ yX7_board.cls ≠ "java/lang/invoke/MethodHandle" ∧ yX7_board.cls ≠ "java/lang/invoke/VarHandle" ∧ (parseMethodDescriptor yX7_board.desc).map (fun d => d.parameters.length) = some 1 := ⟨rfl, by decide +kernel, by decide +kernel, by decide +kernel⟩
set_option maxRecDepth 100000 in
set_option maxHeartbeats 1000000 in
theorem kX7_board (l : Launch) (D : va_G) (cI cJ : ClassId) (mo : Nat) (nn : Nat) (mm : Nat) (me : Nat) (mj : Nat) (mw : Nat) (mp : Nat) (mu : Nat) (ke : Bool) (bd : Int32) (ml : Nat) (sq : Nat) (mq : Nat) (fi : Int32) (gu : Int32) (le : Int32) (cs : Int32) (ba : Bool) (ov : Int32) (m1 : Nat) (m2 : Nat) (m3 : Nat) (m4 : Nat) (lk : Int32) (sp : Bool) (bs : Int32) (bo : Int32) (m5 : Nat) (m6 : Nat) (m7 : Nat) (su : Int32) (sl : Int32) (m8 : Nat) (lo : Int32) (sh : Int32) (wa : Row) (bb : Row) (what : Int32) (w : Nat) (y : RBt) (hw : w = 61) (hsq : sq ≤ 40) (hW : WallOK wa sq) (hy : y = runA w wa sq (run0 bb) 24) : Met l yX7_board wsX7_board rmX7_board (mPre D cI cJ [.ref mo, .int what] [(mo, .inr (7, moV (nI nn) (nI mm) me mj mw mp mu (zb (ke = true)) bd ml (nI sq) mq fi gu le cs (zb (ba = true)) ov m1 m2 m3 m4 lk (zb (sp = true)) bs bo m5 m6 m7 su sl m8 lo sh)), (mq, .inl (cI, 120, .inl wa)), (m8, .inl (cI, 3721, .inl bb))]) (mQi D (fun (r : Int32) (u : (Int32) × (Int32) × (Row)) => r = (boardR w y what)) (fun (u : (Int32) × (Int32) × (Row)) => [(mo, .inr (7, moV (nI nn) (nI mm) me mj mw mp mu (zb (ke = true)) bd ml (nI sq) mq fi gu le cs (zb (ba = true)) ov m1 m2 m3 m4 lk (zb (sp = true)) bs bo m5 m6 m7 su sl m8 u.1 u.2.1)), (mq, .inl (cI, 120, .inl wa)), (m8, .inl (cI, 3721, .inl u.2.2))]) [(mo, .inr (7, moV (nI nn) (nI mm) me mj mw mp mu (zb (ke = true)) bd ml (nI sq) mq fi gu le cs (zb (ba = true)) ov m1 m2 m3 m4 lk (zb (sp = true)) bs bo m5 m6 m7 su sl m8 lo sh)), (mq, .inl (cI, 120, .inl wa)), (m8, .inl (cI, 3721, .inl bb))]) 0 0 (mA [(mo, .inr (7, moV (nI nn) (nI mm) me mj mw mp mu (zb (ke = true)) bd ml (nI sq) mq fi gu le cs (zb (ba = true)) ov m1 m2 m3 m4 lk (zb (sp = true)) bs bo m5 m6 m7 su sl m8 lo sh)), (mq, .inl (cI, 120, .inl wa)), (m8, .inl (cI, 3721, .inl bb))]) := by
  refine startM (cc := cX7_board) (maxL := 7) (ret := (some .int)) (by decide) rfl (Nat.le_of_ble_eq_true rfl) ?_
  intro p e s m args below meth c ls Q A hA hQ hx hb hr hlocks hml hown hts hK hN hP hD hl hin
  have hown : s.vm.findClass RX7 = some m.cls := hown
  have hi_7 : ∀ w ∈ wsX70, w ∈ wsX7_board := by decide +kernel
  have hf_59 := hts (.fieldLink RX7 59 "FireNetsModel" "board" "[I") (by decide +kernel)
  have hf_239 := hts (.fieldLink RX7 239 "FireNetsModel" "lost" "I") (by decide +kernel)
  have hf_246 := hts (.fieldLink RX7 246 "FireNetsModel" "shutAt" "I") (by decide +kernel)
  have hc_255 := hts (.constantLong RX7 255 (3)) (by decide +kernel)
  have hS : va_S A s.heap s.heap [] := va_S.rf
  have hl : lv_has ls 7 [(0, .ref mo), (1, .int what)] := hl
  have hP : va_P D vwCl [(mo, .inr (7, moV (nI nn) (nI mm) me mj mw mp mu (zb (ke = true)) bd ml (nI sq) mq fi gu le cs (zb (ba = true)) ov m1 m2 m3 m4 lk (zb (sp = true)) bs bo m5 m6 m7 su sl m8 lo sh)), (mq, .inl (cI, 120, .inl wa)), (m8, .inl (cI, 3721, .inl bb))] s.heap := hP
  refine lv_iload_n hx hb dX7_board_0 rfl (lv_at hl 1 rfl) ?_
  refine lv_i2l (v := what.toInt64) hx hb dX7_board_1 rfl ?_
  refine lv_lconst (v := 0) hx hb dX7_board_2 (by decide) ?_
  refine lv_ldc2 (v := 3) hx hb hown hc_255 dX7_board_3 ?_
  refine goRI hP hS (va_runS (As := [.long what.toInt64, .long 0, .long 3]) (rest := []) ⟨hx, hb, hml, hown, hts⟩ (kX7_in l D cI cJ what.toInt64 0 3) (va_cwS 3 hts gX7_board_X7_in rfl rfl rfl kdX7_in.2 ⟨Nat.le_of_ble_eq_true rfl, Nat.le_of_ble_eq_true rfl⟩) (preR hK hN hP [] rfl) rfl rfl hl.1 rfl (lv_room (Nat.le_of_ble_eq_true rfl)) dX7_board_6 ⟨Nat.zero_le _, Nat.zero_le _⟩) (fun H locs hP hS => ?_)
  refine r_top (x' := zb (0 ≤ what ∧ what ≤ 3)) (zb_iff (in_c (by first | rfl | decide) (by first | rfl | decide))) ?_
  refine r_zne (tgt := 16) hx hb dX7_board_9 (by decide) (fun c_9 => ?_) (fun c_9 => ?_)
  · refine lv_aload_n hx hb dX7_board_16 rfl (lv_at hl 0 rfl) ?_
    refine goMV hP hD hS (va_runV (As := []) (rest := []) ⟨hx, hb, hml, hown, hts⟩ (kX7_run l D cI cJ mo nn mm me mj mw mp mu ke bd ml sq mq fi gu le cs ba ov m1 m2 m3 m4 lk sp bs bo m5 m6 m7 su sl m8 lo sh wa bb w y hw hsq hW hy) (cwV 0 hts gX7_board_X7_run rfl rfl rfl kdX7_run ⟨Nat.le_of_ble_eq_true rfl, Nat.le_of_ble_eq_true rfl⟩) (preMV hK hN hP hD 0 (ci := 7) rfl rfl rfl [0, 1, 2] rfl (by decide)) rfl rfl hl.1 rfl (lv_room (Nat.le_of_ble_eq_true rfl)) dX7_board_17 ⟨Nat.zero_le _, Nat.zero_le _⟩) [0, 1, 2] rfl (by decide) (fun _ => (show ([mo, mq, m8] : List Nat) = [mo, mq, m8] from rfl)) (fun _ H locs hp_17 hP hD hS => ?_)
    have hP : va_P D vwCl [(mo, .inr (7, moV (nI nn) (nI mm) me mj mw mp mu (zb (ke = true)) bd ml (nI sq) mq fi gu le cs (zb (ba = true)) ov m1 m2 m3 m4 lk (zb (sp = true)) bs bo m5 m6 m7 su sl m8 y.2.1 y.2.2)), (mq, .inl (cI, 120, .inl wa)), (m8, .inl (cI, 3721, .inl y.1))] H := hP
    have hD : va_D A [(mo, .inr (7, moV (nI nn) (nI mm) me mj mw mp mu (zb (ke = true)) bd ml (nI sq) mq fi gu le cs (zb (ba = true)) ov m1 m2 m3 m4 lk (zb (sp = true)) bs bo m5 m6 m7 su sl m8 y.2.1 y.2.2)), (mq, .inl (cI, 120, .inl wa)), (m8, .inl (cI, 3721, .inl y.1))] := hD
    refine lv_iconst (v := 0) hx hb dX7_board_20 (by decide) ?_
    refine lv_istore_n (lv' := [(2, .int 0), (0, .ref mo), (1, .int what)]) hx hb dX7_board_21 rfl hl (by decide) rfl (fun ls hl => ?_)
    refine lv_iconst (v := 0) hx hb dX7_board_22 (by decide) ?_
    refine lv_istore_n (lv' := [(3, .int 0), (2, .int 0), (0, .ref mo), (1, .int what)]) hx hb dX7_board_23 rfl hl (by decide) rfl (fun ls hl => ?_)
    refine lv_bipush (v := (-30)) hx hb dX7_board_24 (by decide) ?_
    refine lv_istore (lv' := [(4, .int (-30)), (3, .int 0), (2, .int 0), (0, .ref mo), (1, .int what)]) hx hb dX7_board_26 hl (by decide) rfl (fun ls hl => ?_)
    have ly : ∀ (fu : Nat) (Y : Nat), (Y ≤ 61) → 61 - Y < fu → ∀ (ls : Array Slot) (H : Heap) (locs : List Loc), lv_has ls 7 [(0, .ref mo), (1, .int what), (2, .int ((ctY w y.1 Y).1)), (3, .int ((ctY w y.1 Y).2)), (4, .int (crd Y))] → va_P D vwCl [(mo, .inr (7, moV (nI nn) (nI mm) me mj mw mp mu (zb (ke = true)) bd ml (nI sq) mq fi gu le cs (zb (ba = true)) ov m1 m2 m3 m4 lk (zb (sp = true)) bs bo m5 m6 m7 su sl m8 y.2.1 y.2.2)), (mq, .inl (cI, 120, .inl wa)), (m8, .inl (cI, 3721, .inl y.1))] H → va_D A [(mo, .inr (7, moV (nI nn) (nI mm) me mj mw mp mu (zb (ke = true)) bd ml (nI sq) mq fi gu le cs (zb (ba = true)) ov m1 m2 m3 m4 lk (zb (sp = true)) bs bo m5 m6 m7 su sl m8 y.2.1 y.2.2)), (mq, .inl (cI, 120, .inl wa)), (m8, .inl (cI, 3721, .inl y.1))] → va_S A s.heap H locs → W p l e rmX7_board s m args below meth c H locs 0 0 Q (F0 m 28 ls []) := by
      intro fu
      induction fu with
      | zero => intro Y hY hf; exact absurd hf (Nat.not_lt_zero _)
      | succ fu ih_ly =>
        intro Y hY hf ls H locs hl hP hD hS
        refine lv_iload hx hb dX7_board_28 (lv_at hl 4 rfl) ?_
        refine lv_bipush (v := 30) hx hb dX7_board_30 (by decide) ?_
        refine lv_icmp_gt (tgt := 130) hx hb dX7_board_32 (by decide) (fun c_32 => ?_) (fun c_32 => ?_)
        · refine lv_iload_n hx hb dX7_board_130 rfl (lv_at hl 1 rfl) ?_
          refine lv_if_ne (tgt := 141) hx hb dX7_board_131 (by decide) (fun c_131 => ?_) (fun c_131 => ?_)
          · refine lv_iload_n hx hb dX7_board_141 rfl (lv_at hl 1 rfl) ?_
            refine lv_iconst (v := 1) hx hb dX7_board_142 (by decide) ?_
            refine lv_icmp_ne (tgt := 150) hx hb dX7_board_143 (by decide) (fun c_143 => ?_) (fun c_143 => ?_)
            · refine lv_iload_n hx hb dX7_board_150 rfl (lv_at hl 1 rfl) ?_
              refine lv_iconst (v := 2) hx hb dX7_board_151 (by decide) ?_
              refine lv_icmp_ne (tgt := 162) hx hb dX7_board_152 (by decide) (fun c_152 => ?_) (fun c_152 => ?_)
              · refine lv_iload_n hx hb dX7_board_162 rfl (lv_at hl 3 rfl) ?_
                exact endMI ⟨y.2.1, y.2.2, y.1⟩ hx hb hr hlocks hA hQ hS hP dX7_board_163 rfl (by rw [boardR, if_pos c_9, if_neg c_131, if_neg c_143, if_neg c_152, show w = Y by rw [hw]; exact ((crd_gt (by omega)).mp c_32).symm])
              · refine lv_aload_n hx hb dX7_board_155 rfl (lv_at hl 0 rfl) ?_
                refine va_get (D := D) (ci := 7) (v := .int y.2.1) (C := RX7) (T := TX7) (N := 34) hx hb hts hi_7 hown hK hP 0 rfl rfl 32 (by decide) hf_239 (fun _ h9 => h9) rfl dX7_board_156 ?_
                refine lv_goto (tgt := 163) hx hb dX7_board_159 (by decide) ?_
                exact endMI ⟨y.2.1, y.2.2, y.1⟩ hx hb hr hlocks hA hQ hS hP dX7_board_163 rfl (by rw [boardR, if_pos c_9, if_neg c_131, if_neg c_143, if_pos c_152])
            · refine lv_iload_n hx hb dX7_board_146 rfl (lv_at hl 2 rfl) ?_
              refine lv_goto (tgt := 163) hx hb dX7_board_147 (by decide) ?_
              exact endMI ⟨y.2.1, y.2.2, y.1⟩ hx hb hr hlocks hA hQ hS hP dX7_board_163 rfl (by rw [boardR, if_pos c_9, if_neg c_131, if_pos c_143, show w = Y by rw [hw]; exact ((crd_gt (by omega)).mp c_32).symm])
          · refine lv_aload_n hx hb dX7_board_134 rfl (lv_at hl 0 rfl) ?_
            refine va_get (D := D) (ci := 7) (v := .int y.2.2) (C := RX7) (T := TX7) (N := 34) hx hb hts hi_7 hown hK hP 0 rfl rfl 33 (by decide) hf_246 (fun _ h9 => h9) rfl dX7_board_135 ?_
            refine lv_goto (tgt := 163) hx hb dX7_board_138 (by decide) ?_
            exact endMI ⟨y.2.1, y.2.2, y.1⟩ hx hb hr hlocks hA hQ hS hP dX7_board_163 rfl (by rw [boardR, if_pos c_9, if_pos c_131])
        · have hY1 : ¬ Y = 61 := fun h => c_32 ((crd_gt (by omega)).mpr h)
          refine lv_bipush (v := (-30)) hx hb dX7_board_35 (by decide) ?_
          refine lv_istore (lv' := [(5, .int (-30)), (0, .ref mo), (1, .int what), (2, .int ((ctY w y.1 Y).1)), (3, .int ((ctY w y.1 Y).2)), (4, .int (crd Y))]) hx hb dX7_board_37 hl (by decide) rfl (fun ls hl => ?_)
          have lx : ∀ (fu : Nat) (X : Nat), (X ≤ 61) → 61 - X < fu → ∀ (ls : Array Slot) (H : Heap) (locs : List Loc), lv_has ls 7 [(0, .ref mo), (1, .int what), (2, .int ((ctX y.1 Y (ctY w y.1 Y) X).1)), (3, .int ((ctX y.1 Y (ctY w y.1 Y) X).2)), (4, .int (crd Y)), (5, .int (crd X))] → va_P D vwCl [(mo, .inr (7, moV (nI nn) (nI mm) me mj mw mp mu (zb (ke = true)) bd ml (nI sq) mq fi gu le cs (zb (ba = true)) ov m1 m2 m3 m4 lk (zb (sp = true)) bs bo m5 m6 m7 su sl m8 y.2.1 y.2.2)), (mq, .inl (cI, 120, .inl wa)), (m8, .inl (cI, 3721, .inl y.1))] H → va_D A [(mo, .inr (7, moV (nI nn) (nI mm) me mj mw mp mu (zb (ke = true)) bd ml (nI sq) mq fi gu le cs (zb (ba = true)) ov m1 m2 m3 m4 lk (zb (sp = true)) bs bo m5 m6 m7 su sl m8 y.2.1 y.2.2)), (mq, .inl (cI, 120, .inl wa)), (m8, .inl (cI, 3721, .inl y.1))] → va_S A s.heap H locs → W p l e rmX7_board s m args below meth c H locs 0 0 Q (F0 m 39 ls []) := by
            intro fu
            induction fu with
            | zero => intro X hX hf; exact absurd hf (Nat.not_lt_zero _)
            | succ fu ih_lx =>
              intro X hX hf ls H locs hl hP hD hS
              refine lv_iload hx hb dX7_board_39 (lv_at hl 5 rfl) ?_
              refine lv_bipush (v := 30) hx hb dX7_board_41 (by decide) ?_
              refine lv_icmp_gt (tgt := 124) hx hb dX7_board_43 (by decide) (fun c_43 => ?_) (fun c_43 => ?_)
              · refine lv_iinc (k := 4) (v := (crd Y) + 1) (lv' := [(4, .int ((crd Y) + 1)), (0, .ref mo), (1, .int what), (2, .int ((ctX y.1 Y (ctY w y.1 Y) X).1)), (3, .int ((ctX y.1 Y (ctY w y.1 Y) X).2)), (5, .int (crd X))]) hx hb dX7_board_124 hl rfl rfl (by decide) rfl (fun ls hl => ?_)
                refine lv_goto (tgt := 28) hx hb dX7_board_127 (by decide) ?_
                have eX : w = X := by rw [hw]; exact ((crd_gt (by omega)).mp c_43).symm
                exact ih_ly (Y + 1) (by omega) (by omega) ls _ _ (by rw [ctY, ← crd_s, eX]; rw [eX] at hl; exact lv_sub hl [1, 2, 3, 4, 0] rfl) hP hD hS
              · have hX1 : ¬ X = 61 := fun h => c_43 ((crd_gt (by omega)).mpr h)
                refine lv_aload_n hx hb dX7_board_46 rfl (lv_at hl 0 rfl) ?_
                refine va_get (D := D) (ci := 7) (v := .ref m8) (C := RX7) (T := TX7) (N := 34) hx hb hts hi_7 hown hK hP 0 rfl rfl 31 (by decide) hf_59 (fun _ h9 => h9) rfl dX7_board_47 ?_
                refine lv_iload hx hb dX7_board_50 (lv_at hl 5 rfl) ?_
                refine lv_iload hx hb dX7_board_52 (lv_at hl 4 rfl) ?_
                refine goRI hP hS (va_runS (As := [.int (crd X), .int (crd Y)]) (rest := [.ref m8]) ⟨hx, hb, hml, hown, hts⟩ (kX7_square l D cI cJ (crd X) (crd Y)) (va_cwS 2 hts gX7_board_X7_square rfl rfl rfl kdX7_square.2 ⟨Nat.le_of_ble_eq_true rfl, Nat.le_of_ble_eq_true rfl⟩) (preR hK hN hP [] rfl) rfl rfl hl.1 rfl (lv_room (Nat.le_of_ble_eq_true rfl)) dX7_board_54 ⟨Nat.zero_le _, Nat.zero_le _⟩) (fun H locs hP hS => ?_)
                refine r_iald hx hb hK hP 2 rfl (61 * Y + X) (crd_sq _ _) (by omega) (by omega) dX7_board_57 ?_
                refine lv_iconst (v := 1) hx hb dX7_board_58 (by decide) ?_
                refine lv_icmp_ne (tgt := 66) hx hb dX7_board_59 (by decide) (fun c_59 => ?_) (fun c_59 => ?_)
                · refine lv_iconst (v := 0) hx hb dX7_board_66 (by decide) ?_
                  refine lv_istore (lv' := [(6, .int 0), (0, .ref mo), (1, .int what), (2, .int ((ctX y.1 Y (ctY w y.1 Y) X).1)), (3, .int ((ctX y.1 Y (ctY w y.1 Y) X).2)), (4, .int (crd Y)), (5, .int (crd X))]) hx hb dX7_board_67 hl (by decide) rfl (fun ls hl => ?_)
                  refine lv_iload_n hx hb dX7_board_69 rfl (lv_at hl 3 rfl) ?_
                  refine lv_iload hx hb dX7_board_70 (lv_at hl 0 rfl) ?_
                  refine lv_if_eq (tgt := 79) hx hb dX7_board_72 (by decide) (fun c_72 => ?_) (fun c_72 => ?_)
                  · refine lv_iconst (v := 0) hx hb dX7_board_79 (by decide) ?_
                    refine lv_iadd hx hb dX7_board_80 ?_
                    refine lv_istore_n (lv' := [(2, .int (((ctX y.1 Y (ctY w y.1 Y) X).1) + 0)), (6, .int 0), (0, .ref mo), (1, .int what), (3, .int ((ctX y.1 Y (ctY w y.1 Y) X).2)), (4, .int (crd Y)), (5, .int (crd X))]) hx hb dX7_board_81 rfl hl (by decide) rfl (fun ls hl => ?_)
                    refine lv_iload hx hb dX7_board_82 (lv_at hl 1 rfl) ?_
                    refine lv_if_eq (tgt := 116) hx hb dX7_board_84 (by decide) (fun c_84 => ?_) (fun c_84 => ?_)
                    · refine lv_iload_n hx hb dX7_board_116 rfl (lv_at hl 4 rfl) ?_
                      refine lv_istore_n (lv' := [(3, .int ((ctX y.1 Y (ctY w y.1 Y) X).2)), (2, .int (((ctX y.1 Y (ctY w y.1 Y) X).1) + 0)), (6, .int 0), (0, .ref mo), (1, .int what), (4, .int (crd Y)), (5, .int (crd X))]) hx hb dX7_board_117 rfl hl (by decide) rfl (fun ls hl => ?_)
                      refine lv_iinc (k := 6) (v := (crd X) + 1) (lv' := [(5, .int ((crd X) + 1)), (3, .int ((ctX y.1 Y (ctY w y.1 Y) X).2)), (2, .int (((ctX y.1 Y (ctY w y.1 Y) X).1) + 0)), (6, .int 0), (0, .ref mo), (1, .int what), (4, .int (crd Y))]) hx hb dX7_board_118 hl rfl rfl (by decide) rfl (fun ls hl => ?_)
                      refine lv_goto (tgt := 39) hx hb dX7_board_121 (by decide) ?_
                      exact ih_lx (X + 1) (by omega) (by omega) ls _ _ (by rw [ctX, ctS, if_neg c_59, ← crd_s]; exact lv_sub hl [4, 5, 2, 1, 6, 0] rfl) hP hD hS
                    · exact absurd rfl c_84
                  · exact absurd rfl c_72
                · refine lv_iconst (v := 1) hx hb dX7_board_62 (by decide) ?_
                  refine lv_goto (tgt := 67) hx hb dX7_board_63 (by decide) ?_
                  refine lv_istore (lv' := [(6, .int 1), (0, .ref mo), (1, .int what), (2, .int ((ctX y.1 Y (ctY w y.1 Y) X).1)), (3, .int ((ctX y.1 Y (ctY w y.1 Y) X).2)), (4, .int (crd Y)), (5, .int (crd X))]) hx hb dX7_board_67 hl (by decide) rfl (fun ls hl => ?_)
                  refine lv_iload_n hx hb dX7_board_69 rfl (lv_at hl 3 rfl) ?_
                  refine lv_iload hx hb dX7_board_70 (lv_at hl 0 rfl) ?_
                  refine lv_if_eq (tgt := 79) hx hb dX7_board_72 (by decide) (fun c_72 => ?_) (fun c_72 => ?_)
                  · exact absurd c_72 (by decide)
                  · refine lv_iconst (v := 1) hx hb dX7_board_75 (by decide) ?_
                    refine lv_goto (tgt := 80) hx hb dX7_board_76 (by decide) ?_
                    refine lv_iadd hx hb dX7_board_80 ?_
                    refine lv_istore_n (lv' := [(2, .int (((ctX y.1 Y (ctY w y.1 Y) X).1) + 1)), (6, .int 1), (0, .ref mo), (1, .int what), (3, .int ((ctX y.1 Y (ctY w y.1 Y) X).2)), (4, .int (crd Y)), (5, .int (crd X))]) hx hb dX7_board_81 rfl hl (by decide) rfl (fun ls hl => ?_)
                    refine lv_iload hx hb dX7_board_82 (lv_at hl 1 rfl) ?_
                    refine lv_if_eq (tgt := 116) hx hb dX7_board_84 (by decide) (fun c_84 => ?_) (fun c_84 => ?_)
                    · exact absurd c_84 (by decide)
                    · refine lv_iload hx hb dX7_board_87 (lv_at hl 6 rfl) ?_
                      refine goRI hP hS (va_runS (As := [.int (crd X)]) (rest := []) ⟨hx, hb, hml, hown, hts⟩ (kX7_size l D cI cJ (crd X)) (va_cwS 1 hts gX7_board_X7_size rfl rfl rfl kdX7_size.2 ⟨Nat.le_of_ble_eq_true rfl, Nat.le_of_ble_eq_true rfl⟩) (preR hK hN hP [] rfl) rfl rfl hl.1 rfl (lv_room (Nat.le_of_ble_eq_true rfl)) dX7_board_89 ⟨Nat.zero_le _, Nat.zero_le _⟩) (fun H locs hP hS => ?_)
                      refine lv_iload hx hb dX7_board_92 (lv_at hl 5 rfl) ?_
                      refine goRI hP hS (va_runS (As := [.int (crd Y)]) (rest := [.int (sizeI (crd X))]) ⟨hx, hb, hml, hown, hts⟩ (kX7_size l D cI cJ (crd Y)) (va_cwS 1 hts gX7_board_X7_size rfl rfl rfl kdX7_size.2 ⟨Nat.le_of_ble_eq_true rfl, Nat.le_of_ble_eq_true rfl⟩) (preR hK hN hP [] rfl) rfl rfl hl.1 rfl (lv_room (Nat.le_of_ble_eq_true rfl)) dX7_board_94 ⟨Nat.zero_le _, Nat.zero_le _⟩) (fun H locs hP hS => ?_)
                      refine lv_iadd hx hb dX7_board_97 ?_
                      refine lv_iload_n hx hb dX7_board_98 rfl (lv_at hl 4 rfl) ?_
                      refine lv_icmp_le (tgt := 116) hx hb dX7_board_99 (by decide) (fun c_99 => ?_) (fun c_99 => ?_)
                      · refine lv_iload_n hx hb dX7_board_116 rfl (lv_at hl 4 rfl) ?_
                        refine lv_istore_n (lv' := [(3, .int ((ctX y.1 Y (ctY w y.1 Y) X).2)), (2, .int (((ctX y.1 Y (ctY w y.1 Y) X).1) + 1)), (6, .int 1), (0, .ref mo), (1, .int what), (4, .int (crd Y)), (5, .int (crd X))]) hx hb dX7_board_117 rfl hl (by decide) rfl (fun ls hl => ?_)
                        refine lv_iinc (k := 6) (v := (crd X) + 1) (lv' := [(5, .int ((crd X) + 1)), (3, .int ((ctX y.1 Y (ctY w y.1 Y) X).2)), (2, .int (((ctX y.1 Y (ctY w y.1 Y) X).1) + 1)), (6, .int 1), (0, .ref mo), (1, .int what), (4, .int (crd Y))]) hx hb dX7_board_118 hl rfl rfl (by decide) rfl (fun ls hl => ?_)
                        refine lv_goto (tgt := 39) hx hb dX7_board_121 (by decide) ?_
                        exact ih_lx (X + 1) (by omega) (by omega) ls _ _ (by rw [ctX, ctS, if_pos c_59, if_neg (i_nlt c_99), ← crd_s]; exact lv_sub hl [4, 5, 2, 1, 6, 0] rfl) hP hD hS
                      · refine lv_iload hx hb dX7_board_102 (lv_at hl 6 rfl) ?_
                        refine goRI hP hS (va_runS (As := [.int (crd X)]) (rest := []) ⟨hx, hb, hml, hown, hts⟩ (kX7_size l D cI cJ (crd X)) (va_cwS 1 hts gX7_board_X7_size rfl rfl rfl kdX7_size.2 ⟨Nat.le_of_ble_eq_true rfl, Nat.le_of_ble_eq_true rfl⟩) (preR hK hN hP [] rfl) rfl rfl hl.1 rfl (lv_room (Nat.le_of_ble_eq_true rfl)) dX7_board_104 ⟨Nat.zero_le _, Nat.zero_le _⟩) (fun H locs hP hS => ?_)
                        refine lv_iload hx hb dX7_board_107 (lv_at hl 5 rfl) ?_
                        refine goRI hP hS (va_runS (As := [.int (crd Y)]) (rest := [.int (sizeI (crd X))]) ⟨hx, hb, hml, hown, hts⟩ (kX7_size l D cI cJ (crd Y)) (va_cwS 1 hts gX7_board_X7_size rfl rfl rfl kdX7_size.2 ⟨Nat.le_of_ble_eq_true rfl, Nat.le_of_ble_eq_true rfl⟩) (preR hK hN hP [] rfl) rfl rfl hl.1 rfl (lv_room (Nat.le_of_ble_eq_true rfl)) dX7_board_109 ⟨Nat.zero_le _, Nat.zero_le _⟩) (fun H locs hP hS => ?_)
                        refine lv_iadd hx hb dX7_board_112 ?_
                        refine lv_goto (tgt := 117) hx hb dX7_board_113 (by decide) ?_
                        refine lv_istore_n (lv' := [(3, .int ((sizeI (crd X)) + (sizeI (crd Y)))), (2, .int (((ctX y.1 Y (ctY w y.1 Y) X).1) + 1)), (6, .int 1), (0, .ref mo), (1, .int what), (4, .int (crd Y)), (5, .int (crd X))]) hx hb dX7_board_117 rfl hl (by decide) rfl (fun ls hl => ?_)
                        refine lv_iinc (k := 6) (v := (crd X) + 1) (lv' := [(5, .int ((crd X) + 1)), (3, .int ((sizeI (crd X)) + (sizeI (crd Y)))), (2, .int (((ctX y.1 Y (ctY w y.1 Y) X).1) + 1)), (6, .int 1), (0, .ref mo), (1, .int what), (4, .int (crd Y))]) hx hb dX7_board_118 hl rfl rfl (by decide) rfl (fun ls hl => ?_)
                        refine lv_goto (tgt := 39) hx hb dX7_board_121 (by decide) ?_
                        exact ih_lx (X + 1) (by omega) (by omega) ls _ _ (by rw [ctX, ctS, if_pos c_59, if_pos (i_le c_99), ← crd_s]; exact lv_sub hl [4, 5, 2, 1, 6, 0] rfl) hP hD hS
          exact lx _ 0 (by omega) (Nat.lt_succ_self _) ls _ _ (lv_sub hl [1, 2, 3, 4, 5, 0] rfl) hP hD hS
    exact ly _ 0 (by omega) (Nat.lt_succ_self _) ls _ _ (lv_sub hl [3, 4, 2, 1, 0] rfl) hP hD hS
  · refine lv_sipush (v := (-1002)) hx hb dX7_board_12 (by decide) ?_
    exact endMI ⟨lo, sh, bb⟩ hx hb hr hlocks hA hQ hS hP dX7_board_15 rfl (by rw [boardR, if_neg c_9])

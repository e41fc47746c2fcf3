/-! the reference's chance -/
def pairM (en : Row) (l : Nat) : Int32 := ((1 : Int32) <<< (en (2 * l) &&& 31)) ||| ((1 : Int32) <<< (en (2 * l + 1) &&& 31))
def passA (en : Row) (cl op s : Int32) : Nat → Int32
  | 0 => s
  | l + 1 => if bt op (nI l) = 1 ∧ ¬ passA en cl op s l &&& pairM en l = 0 ∧ pairM en l &&& cl = 0 then passA en cl op s l ||| pairM en l else passA en cl op s l ||| 0
def reachL (en : Row) (mm : Nat) (cl op : Int32) : Nat → Int32 → Option Int32
  | 0, _ => none
  | j + 1, s => if passA en cl op s mm = s then some s else reachL en mm cl op j (passA en cl op s mm)
def bitsN (v : Int32) : Nat → Nat
  | 0 => 0
  | k + 1 => bitsN v k + if bt v (nI k) = 1 then 1 else 0
theorem bitsN_le (v : Int32) : ∀ k, bitsN v k ≤ k
  | 0 => Nat.le_refl _
  | k + 1 => by
    have h := bitsN_le v k
    show bitsN v k + (if bt v (nI k) = 1 then 1 else 0) ≤ k + 1
    split <;> omega
theorem and1_01 (x : Int32) : x &&& 1 = 1 ∨ x &&& 1 = 0 := by
  have h : (x &&& 1).toBitVec.toNat = x.toBitVec.toNat % 2 := by
    rw [← Nat.and_one_is_mod]
    rfl
  rcases Nat.mod_two_eq_zero_or_one x.toBitVec.toNat with q | q
  · exact Or.inr (Int32.toBitVec_inj.mp (BitVec.eq_of_toNat_eq (h.trans q)))
  · exact Or.inl (Int32.toBitVec_inj.mp (BitVec.eq_of_toNat_eq (h.trans q)))
theorem bt_01 (v k : Int32) : bt v k = 1 ∨ bt v k = 0 := and1_01 _
theorem bitsN_S (v : Int32) (k : Nat) : nI (bitsN v k) + bt v (nI k) = nI (bitsN v (k + 1)) := by
  show _ = nI (bitsN v k + if bt v (nI k) = 1 then 1 else 0)
  rcases bt_01 v (nI k) with h | h
  · rw [h, if_pos rfl]
    exact nI_add _ _
  · rw [h, if_neg (by decide)]
    exact nI_add _ 0
theorem shl_nat {m : Nat} (h : m ≤ 30) : (1 : Int32) <<< (nI m &&& 31) = nI (2 ^ m) := by
  have : ∀ k, k < 31 → (1 : Int32) <<< (nI k &&& 31) = nI (2 ^ k) := by decide
  exact this m (by omega)
theorem pow_b {m : Nat} (h : m ≤ 12) : 2 ^ m ≤ 4096 := by
  have : ∀ k, k < 13 → 2 ^ k ≤ 4096 := by decide
  exact this m (by omega)
def chanA (RS : Nat → Int32) (kn a b : Int32) (mm : Nat) : Nat → Int64
  | 0 => 0
  | o + 1 => chanA RS kn a b mm o + if bt (RS o) kn = 1 then powL a.toInt64 (bitsN (nI o) mm) * powL (b - a).toInt64 (mm - bitsN (nI o) mm) else 0
def gcdQ : Nat → Int64 → Int64 → Option Int64
  | 0, _, _ => none
  | j + 1, x, y => if y = 0 then some x else gcdQ j y (x - x / y * y)
def chanV (n mm : Nat) (kn st gd a b what : Int32) : Prop := (0 ≤ kn ∧ kn ≤ nI n - 1) ∧ (1 ≤ st ∧ st ≤ allI (nI n)) ∧ (0 ≤ gd ∧ gd ≤ allI (nI n)) ∧ (1 ≤ b ∧ b ≤ 6) ∧ (0 ≤ a ∧ a ≤ b) ∧ (0 ≤ what ∧ what ≤ 1) ∧ mm ≤ 12
def chanceR (n mm : Nat) (up lo g : Int64) (kn st gd a b what : Int32) : Int64 :=
  if 0 ≤ kn ∧ kn ≤ nI n - 1 then
    if 1 ≤ st ∧ st ≤ allI (nI n) then if 0 ≤ gd ∧ gd ≤ allI (nI n) then if 1 ≤ b ∧ b ≤ 6 then if 0 ≤ a ∧ a ≤ b then if 0 ≤ what ∧ what ≤ 1 then
      if mm ≤ 12 then if what = 0 then up / g else lo / g else -1003
    else -1002 else -1002 else -1002 else -1002 else -1002
  else -1001
/-! the reference's wall -/
theorem isWM_f {wa : Row} {x y : Int32} {k : Nat} (h : ¬ (wa (3 * k) = x ∧ wa (3 * k + 1) = y)) (h0 : isWM wa x y k = false) : isWM wa x y (k + 1) = false := by
  simp only [isWM, h0, Bool.false_or]
  rw [Bool.eq_false_iff]
  intro h2
  rw [Bool.and_eq_true, decide_eq_true_iff, decide_eq_true_iff] at h2
  exact h h2
theorem isWM_t {wa : Row} {x y : Int32} {k : Nat} (h : wa (3 * k) = x ∧ wa (3 * k + 1) = y) : isWM wa x y (k + 1) = true := by
  simp only [isWM, h.1, h.2, decide_true, Bool.and_self, Bool.or_true]
def rmX7_reached : Room := { frames := 0, cells := 0, slots := 0, locals := 0 }
theorem kdX7_reached : yX7_reached.cls = RX7 ∧ yX7_reached.cls ≠ "java/lang/invoke/MethodHandle" ∧ yX7_reached.cls ≠ "java/lang/invoke/VarHandle" ∧ (parseMethodDescriptor yX7_reached.desc).map (fun d => d.parameters.length) = some 3 := ⟨rfl, by decide +kernel, by decide +kernel, by decide +kernel⟩
set_option maxRecDepth 100000 in
set_option maxHeartbeats 1000000 in
theorem kX7_reached (l : Launch) (D : va_G) (cI cJ : ClassId) (mo : Nat) (nn : Nat) (mm : Nat) (me : Nat) (mj : Nat) (mw : Nat) (mp : Nat) (mu : Nat) (ke : Bool) (bd : Int32) (ml : Nat) (sq : Nat) (mq : Nat) (fi : Int32) (gu : Int32) (le : Int32) (cs : Int32) (ba : Bool) (ov : Int32) (m1 : Nat) (m2 : Nat) (m3 : Nat) (m4 : Nat) (lk : Int32) (sp : Bool) (bs : Int32) (bo : Int32) (m5 : Nat) (m6 : Nat) (m7 : Nat) (su : Int32) (sl : Int32) (m8 : Nat) (lo : Int32) (sh : Int32) (en : Row) (st cl op y : Int32) (hm : mm ≤ 24) (hy : reachL en mm cl op 40 st = some y) : Met l yX7_reached wsX7_reached rmX7_reached (rPre D cI cJ [.ref mo, .int st, .int cl, .int op] [(mo, .inr (7, moV (nI nn) (nI mm) me mj mw mp mu (zb (ke = true)) bd ml (nI sq) mq fi gu le cs (zb (ba = true)) ov m1 m2 m3 m4 lk (zb (sp = true)) bs bo m5 m6 m7 su sl m8 lo sh)), (me, .inl (cI, 48, .inl en))]) (qRI y) 0 0 nA := by
  refine startR (cc := cX7_reached) (maxL := 10) (ret := (some .int)) (by decide) rfl (Nat.le_of_ble_eq_true rfl) ?_
  intro p e s m args below meth c ls Q hQ hx hb hr hlocks hml hown hts hK hN hP hl hin
  have hown : s.vm.findClass RX7 = some m.cls := hown
  have hi_7 : ∀ w ∈ wsX70, w ∈ wsX7_reached := by decide +kernel
  have hf_13 := hts (.fieldLink RX7 13 "FireNetsModel" "ends" "[I") (by decide +kernel)
  have hf_65 := hts (.fieldLink RX7 65 "FireNetsModel" "lines" "I") (by decide +kernel)
  have hS : va_S nA s.heap s.heap [] := va_S.rf
  have hl : lv_has ls 10 [(0, .ref mo), (1, .int st), (2, .int cl), (3, .int op)] := hl
  have hP : va_P D vwCl [(mo, .inr (7, moV (nI nn) (nI mm) me mj mw mp mu (zb (ke = true)) bd ml (nI sq) mq fi gu le cs (zb (ba = true)) ov m1 m2 m3 m4 lk (zb (sp = true)) bs bo m5 m6 m7 su sl m8 lo sh)), (me, .inl (cI, 48, .inl en))] s.heap := hP
  refine lv_iload_n hx hb dX7_reached_0 rfl (lv_at hl 1 rfl) ?_
  refine lv_istore (lv' := [(4, .int st), (0, .ref mo), (1, .int st), (2, .int cl), (3, .int op)]) hx hb dX7_reached_1 hl (by decide) rfl (fun ls hl => ?_)
  refine lv_iconst (v := 1) hx hb dX7_reached_3 (by decide) ?_
  refine lv_istore (lv' := [(5, .int 1), (4, .int st), (0, .ref mo), (1, .int st), (2, .int cl), (3, .int op)]) hx hb dX7_reached_4 hl (by decide) rfl (fun ls hl => ?_)
  have lp : ∀ (fu : Nat) (j : Nat) (gi se : Int32), ((if gi = 0 then some se else reachL en mm cl op j se) = some y) → j < fu → ∀ (ls : Array Slot) (H : Heap) (locs : List Loc), lv_has ls 10 [(0, .ref mo), (2, .int cl), (3, .int op), (4, .int se), (5, .int gi)] → va_P D vwCl [(mo, .inr (7, moV (nI nn) (nI mm) me mj mw mp mu (zb (ke = true)) bd ml (nI sq) mq fi gu le cs (zb (ba = true)) ov m1 m2 m3 m4 lk (zb (sp = true)) bs bo m5 m6 m7 su sl m8 lo sh)), (me, .inl (cI, 48, .inl en))] H → va_S nA s.heap H locs → W p l e rmX7_reached s m args below meth c H locs 0 0 Q (F0 m 6 ls []) := by
    intro fu
    induction fu with
    | zero => intro j gi se hg hf; exact absurd hf (Nat.not_lt_zero _)
    | succ fu ih_lp =>
      intro j gi se hg hf ls H locs hl hP hS
      refine lv_iload hx hb dX7_reached_6 (lv_at hl 4 rfl) ?_
      refine lv_if_eq (tgt := 125) hx hb dX7_reached_8 (by decide) (fun c_8 => ?_) (fun c_8 => ?_)
      · refine lv_iload hx hb dX7_reached_125 (lv_at hl 3 rfl) ?_
        exact endRI hx hb hr hlocks hQ hS dX7_reached_127 (by rw [if_pos c_8] at hg; exact Option.some.inj hg)
      · obtain ⟨i, rfl⟩ : ∃ i, j = i + 1 := by cases j with | zero => (rw [if_neg c_8] at hg; exact absurd hg (by intro h; cases h)) | succ i => exact ⟨i, rfl⟩
        rw [if_neg c_8] at hg
        refine lv_iload hx hb dX7_reached_11 (lv_at hl 3 rfl) ?_
        refine lv_istore (lv' := [(6, .int se), (0, .ref mo), (2, .int cl), (3, .int op), (4, .int se), (5, .int gi)]) hx hb dX7_reached_13 hl (by decide) rfl (fun ls hl => ?_)
        refine lv_iconst (v := 0) hx hb dX7_reached_15 (by decide) ?_
        refine lv_istore (lv' := [(7, .int 0), (6, .int se), (0, .ref mo), (2, .int cl), (3, .int op), (4, .int se), (5, .int gi)]) hx hb dX7_reached_16 hl (by decide) rfl (fun ls hl => ?_)
        have inn : ∀ (fu : Nat) (li : Nat), (li ≤ mm) → mm - li < fu → ∀ (ls : Array Slot) (H : Heap) (locs : List Loc), lv_has ls 10 [(0, .ref mo), (2, .int cl), (3, .int op), (4, .int (passA en cl op se li)), (6, .int se), (7, .int (nI li))] → va_P D vwCl [(mo, .inr (7, moV (nI nn) (nI mm) me mj mw mp mu (zb (ke = true)) bd ml (nI sq) mq fi gu le cs (zb (ba = true)) ov m1 m2 m3 m4 lk (zb (sp = true)) bs bo m5 m6 m7 su sl m8 lo sh)), (me, .inl (cI, 48, .inl en))] H → va_S nA s.heap H locs → W p l e rmX7_reached s m args below meth c H locs 0 0 Q (F0 m 18 ls []) := by
          intro fu
          induction fu with
          | zero => intro li hl9 hf; exact absurd hf (Nat.not_lt_zero _)
          | succ fu ih_inn =>
            intro li hl9 hf ls H locs hl hP hS
            refine lv_iload hx hb dX7_reached_18 (lv_at hl 5 rfl) ?_
            refine lv_aload_n hx hb dX7_reached_20 rfl (lv_at hl 0 rfl) ?_
            refine va_get (D := D) (ci := 7) (v := .int (nI mm)) (C := RX7) (T := TX7) (N := 34) hx hb hts hi_7 hown hK hP 0 rfl rfl 1 (by decide) hf_65 (fun _ h9 => h9) rfl dX7_reached_21 ?_
            refine r_icmp_ge (tgt := 108) hx hb li mm dX7_reached_24 (by decide) rfl rfl (by omega) (by omega) (fun c_24 => ?_) (fun c_24 => ?_)
            · refine lv_iload hx hb dX7_reached_108 (lv_at hl 3 rfl) ?_
              refine lv_iload hx hb dX7_reached_110 (lv_at hl 4 rfl) ?_
              refine lv_icmp_eq (tgt := 119) hx hb dX7_reached_112 (by decide) (fun c_112 => ?_) (fun c_112 => ?_)
              · refine lv_iconst (v := 0) hx hb dX7_reached_119 (by decide) ?_
                refine lv_istore (lv' := [(5, .int 0), (0, .ref mo), (2, .int cl), (3, .int op), (4, .int (passA en cl op se li)), (6, .int se), (7, .int (nI li))]) hx hb dX7_reached_120 hl (by decide) rfl (fun ls hl => ?_)
                refine lv_goto (tgt := 6) hx hb dX7_reached_122 (by decide) ?_
                exact ih_lp i 0 (passA en cl op se li) (by rw [← hg, reachL, if_pos rfl, if_pos (show passA en cl op se mm = se by rw [show mm = li by omega]; exact c_112)]; exact congrArg some c_112) (by omega) ls _ _ (lv_sub hl [1, 2, 3, 4, 0] rfl) hP hS
              · refine lv_iconst (v := 1) hx hb dX7_reached_115 (by decide) ?_
                refine lv_goto (tgt := 120) hx hb dX7_reached_116 (by decide) ?_
                refine lv_istore (lv' := [(5, .int 1), (0, .ref mo), (2, .int cl), (3, .int op), (4, .int (passA en cl op se li)), (6, .int se), (7, .int (nI li))]) hx hb dX7_reached_120 hl (by decide) rfl (fun ls hl => ?_)
                refine lv_goto (tgt := 6) hx hb dX7_reached_122 (by decide) ?_
                exact ih_lp i 1 (passA en cl op se li) (by rw [← hg, reachL, if_neg (by decide), if_neg (show ¬ passA en cl op se mm = se by rw [show mm = li by omega]; exact c_112), show mm = li by omega]) (by omega) ls _ _ (lv_sub hl [1, 2, 3, 4, 0] rfl) hP hS
            · refine lv_iconst (v := 1) hx hb dX7_reached_27 (by decide) ?_
              refine lv_aload_n hx hb dX7_reached_28 rfl (lv_at hl 0 rfl) ?_
              refine va_get (D := D) (ci := 7) (v := .ref me) (C := RX7) (T := TX7) (N := 34) hx hb hts hi_7 hown hK hP 0 rfl rfl 2 (by decide) hf_13 (fun _ h9 => h9) rfl dX7_reached_29 ?_
              refine lv_iconst (v := 2) hx hb dX7_reached_32 (by decide) ?_
              refine lv_iload hx hb dX7_reached_33 (lv_at hl 5 rfl) ?_
              refine lv_imul hx hb dX7_reached_35 ?_
              refine r_top (x' := nI (2 * li)) (pk_mul 2 li) ?_
              refine r_iald hx hb hK hP 1 rfl (2 * li) rfl (by omega) (by omega) dX7_reached_36 ?_
              refine lv_ishl hx hb dX7_reached_37 ?_
              refine lv_iconst (v := 1) hx hb dX7_reached_38 (by decide) ?_
              refine lv_aload_n hx hb dX7_reached_39 rfl (lv_at hl 0 rfl) ?_
              refine va_get (D := D) (ci := 7) (v := .ref me) (C := RX7) (T := TX7) (N := 34) hx hb hts hi_7 hown hK hP 0 rfl rfl 2 (by decide) hf_13 (fun _ h9 => h9) rfl dX7_reached_40 ?_
              refine lv_iconst (v := 2) hx hb dX7_reached_43 (by decide) ?_
              refine lv_iload hx hb dX7_reached_44 (lv_at hl 5 rfl) ?_
              refine lv_imul hx hb dX7_reached_46 ?_
              refine r_top (x' := nI (2 * li)) (pk_mul 2 li) ?_
              refine lv_iconst (v := 1) hx hb dX7_reached_47 (by decide) ?_
              refine lv_iadd hx hb dX7_reached_48 ?_
              refine r_top (x' := nI ((2 * li) + 1)) (nI_add (2 * li) 1) ?_
              refine r_iald hx hb hK hP 1 rfl ((2 * li) + 1) rfl (by omega) (by omega) dX7_reached_49 ?_
              refine lv_ishl hx hb dX7_reached_50 ?_
              refine lv_ior hx hb dX7_reached_51 ?_
              refine lv_istore (lv' := [(8, .int ((1 <<< ((en (2 * li)) &&& 31)) ||| (1 <<< ((en ((2 * li) + 1)) &&& 31)))), (0, .ref mo), (2, .int cl), (3, .int op), (4, .int (passA en cl op se li)), (6, .int se), (7, .int (nI li))]) hx hb dX7_reached_52 hl (by decide) rfl (fun ls hl => ?_)
              refine lv_iload_n hx hb dX7_reached_54 rfl (lv_at hl 3 rfl) ?_
              refine lv_iload hx hb dX7_reached_55 (lv_at hl 6 rfl) ?_
              refine lv_ishr hx hb dX7_reached_57 ?_
              refine lv_iconst (v := 1) hx hb dX7_reached_58 (by decide) ?_
              refine lv_iand hx hb dX7_reached_59 ?_
              refine lv_iconst (v := 1) hx hb dX7_reached_60 (by decide) ?_
              refine lv_icmp_ne (tgt := 83) hx hb dX7_reached_61 (by decide) (fun c_61 => ?_) (fun c_61 => ?_)
              · refine lv_iconst (v := 0) hx hb dX7_reached_83 (by decide) ?_
                refine lv_istore (lv' := [(9, .int 0), (8, .int ((1 <<< ((en (2 * li)) &&& 31)) ||| (1 <<< ((en ((2 * li) + 1)) &&& 31)))), (0, .ref mo), (2, .int cl), (3, .int op), (4, .int (passA en cl op se li)), (6, .int se), (7, .int (nI li))]) hx hb dX7_reached_84 hl (by decide) rfl (fun ls hl => ?_)
                refine lv_iload hx hb dX7_reached_86 (lv_at hl 5 rfl) ?_
                refine lv_iload hx hb dX7_reached_88 (lv_at hl 0 rfl) ?_
                refine lv_if_eq (tgt := 98) hx hb dX7_reached_90 (by decide) (fun c_90 => ?_) (fun c_90 => ?_)
                · refine lv_iconst (v := 0) hx hb dX7_reached_98 (by decide) ?_
                  refine lv_ior hx hb dX7_reached_99 ?_
                  refine lv_istore (lv' := [(4, .int ((passA en cl op se li) ||| 0)), (9, .int 0), (8, .int ((1 <<< ((en (2 * li)) &&& 31)) ||| (1 <<< ((en ((2 * li) + 1)) &&& 31)))), (0, .ref mo), (2, .int cl), (3, .int op), (6, .int se), (7, .int (nI li))]) hx hb dX7_reached_100 hl (by decide) rfl (fun ls hl => ?_)
                  refine r_iinc (lv' := [(7, .int (nI (li + 1))), (4, .int ((passA en cl op se li) ||| 0)), (9, .int 0), (8, .int ((1 <<< ((en (2 * li)) &&& 31)) ||| (1 <<< ((en ((2 * li) + 1)) &&& 31)))), (0, .ref mo), (2, .int cl), (3, .int op), (6, .int se)]) hx hb 7 li dX7_reached_102 hl rfl (by decide) rfl (fun ls hl => ?_)
                  refine lv_goto (tgt := 18) hx hb dX7_reached_105 (by decide) ?_
                  exact ih_inn (li + 1) (by omega) (by omega) ls _ _ (by rw [passA, if_neg (fun h => absurd h.1 c_61)]; exact lv_sub hl [4, 5, 6, 1, 7, 0] rfl) hP hS
                · exact absurd rfl c_90
              · refine lv_iload hx hb dX7_reached_64 (lv_at hl 4 rfl) ?_
                refine lv_iload hx hb dX7_reached_66 (lv_at hl 0 rfl) ?_
                refine lv_iand hx hb dX7_reached_68 ?_
                refine lv_if_eq (tgt := 83) hx hb dX7_reached_69 (by decide) (fun c_69 => ?_) (fun c_69 => ?_)
                · refine lv_iconst (v := 0) hx hb dX7_reached_83 (by decide) ?_
                  refine lv_istore (lv' := [(9, .int 0), (8, .int ((1 <<< ((en (2 * li)) &&& 31)) ||| (1 <<< ((en ((2 * li) + 1)) &&& 31)))), (0, .ref mo), (2, .int cl), (3, .int op), (4, .int (passA en cl op se li)), (6, .int se), (7, .int (nI li))]) hx hb dX7_reached_84 hl (by decide) rfl (fun ls hl => ?_)
                  refine lv_iload hx hb dX7_reached_86 (lv_at hl 5 rfl) ?_
                  refine lv_iload hx hb dX7_reached_88 (lv_at hl 0 rfl) ?_
                  refine lv_if_eq (tgt := 98) hx hb dX7_reached_90 (by decide) (fun c_90 => ?_) (fun c_90 => ?_)
                  · refine lv_iconst (v := 0) hx hb dX7_reached_98 (by decide) ?_
                    refine lv_ior hx hb dX7_reached_99 ?_
                    refine lv_istore (lv' := [(4, .int ((passA en cl op se li) ||| 0)), (9, .int 0), (8, .int ((1 <<< ((en (2 * li)) &&& 31)) ||| (1 <<< ((en ((2 * li) + 1)) &&& 31)))), (0, .ref mo), (2, .int cl), (3, .int op), (6, .int se), (7, .int (nI li))]) hx hb dX7_reached_100 hl (by decide) rfl (fun ls hl => ?_)
                    refine r_iinc (lv' := [(7, .int (nI (li + 1))), (4, .int ((passA en cl op se li) ||| 0)), (9, .int 0), (8, .int ((1 <<< ((en (2 * li)) &&& 31)) ||| (1 <<< ((en ((2 * li) + 1)) &&& 31)))), (0, .ref mo), (2, .int cl), (3, .int op), (6, .int se)]) hx hb 7 li dX7_reached_102 hl rfl (by decide) rfl (fun ls hl => ?_)
                    refine lv_goto (tgt := 18) hx hb dX7_reached_105 (by decide) ?_
                    exact ih_inn (li + 1) (by omega) (by omega) ls _ _ (by rw [passA, if_neg (fun h => absurd c_69 h.2.1)]; exact lv_sub hl [4, 5, 6, 1, 7, 0] rfl) hP hS
                  · exact absurd rfl c_90
                · refine lv_iload hx hb dX7_reached_72 (lv_at hl 0 rfl) ?_
                  refine lv_iload_n hx hb dX7_reached_74 rfl (lv_at hl 2 rfl) ?_
                  refine lv_iand hx hb dX7_reached_75 ?_
                  refine lv_if_ne (tgt := 83) hx hb dX7_reached_76 (by decide) (fun c_76 => ?_) (fun c_76 => ?_)
                  · refine lv_iconst (v := 0) hx hb dX7_reached_83 (by decide) ?_
                    refine lv_istore (lv' := [(9, .int 0), (8, .int ((1 <<< ((en (2 * li)) &&& 31)) ||| (1 <<< ((en ((2 * li) + 1)) &&& 31)))), (0, .ref mo), (2, .int cl), (3, .int op), (4, .int (passA en cl op se li)), (6, .int se), (7, .int (nI li))]) hx hb dX7_reached_84 hl (by decide) rfl (fun ls hl => ?_)
                    refine lv_iload hx hb dX7_reached_86 (lv_at hl 5 rfl) ?_
                    refine lv_iload hx hb dX7_reached_88 (lv_at hl 0 rfl) ?_
                    refine lv_if_eq (tgt := 98) hx hb dX7_reached_90 (by decide) (fun c_90 => ?_) (fun c_90 => ?_)
                    · refine lv_iconst (v := 0) hx hb dX7_reached_98 (by decide) ?_
                      refine lv_ior hx hb dX7_reached_99 ?_
                      refine lv_istore (lv' := [(4, .int ((passA en cl op se li) ||| 0)), (9, .int 0), (8, .int ((1 <<< ((en (2 * li)) &&& 31)) ||| (1 <<< ((en ((2 * li) + 1)) &&& 31)))), (0, .ref mo), (2, .int cl), (3, .int op), (6, .int se), (7, .int (nI li))]) hx hb dX7_reached_100 hl (by decide) rfl (fun ls hl => ?_)
                      refine r_iinc (lv' := [(7, .int (nI (li + 1))), (4, .int ((passA en cl op se li) ||| 0)), (9, .int 0), (8, .int ((1 <<< ((en (2 * li)) &&& 31)) ||| (1 <<< ((en ((2 * li) + 1)) &&& 31)))), (0, .ref mo), (2, .int cl), (3, .int op), (6, .int se)]) hx hb 7 li dX7_reached_102 hl rfl (by decide) rfl (fun ls hl => ?_)
                      refine lv_goto (tgt := 18) hx hb dX7_reached_105 (by decide) ?_
                      exact ih_inn (li + 1) (by omega) (by omega) ls _ _ (by rw [passA, if_neg (fun h => absurd h.2.2 c_76)]; exact lv_sub hl [4, 5, 6, 1, 7, 0] rfl) hP hS
                    · exact absurd rfl c_90
                  · refine lv_iconst (v := 1) hx hb dX7_reached_79 (by decide) ?_
                    refine lv_goto (tgt := 84) hx hb dX7_reached_80 (by decide) ?_
                    refine lv_istore (lv' := [(9, .int 1), (8, .int ((1 <<< ((en (2 * li)) &&& 31)) ||| (1 <<< ((en ((2 * li) + 1)) &&& 31)))), (0, .ref mo), (2, .int cl), (3, .int op), (4, .int (passA en cl op se li)), (6, .int se), (7, .int (nI li))]) hx hb dX7_reached_84 hl (by decide) rfl (fun ls hl => ?_)
                    refine lv_iload hx hb dX7_reached_86 (lv_at hl 5 rfl) ?_
                    refine lv_iload hx hb dX7_reached_88 (lv_at hl 0 rfl) ?_
                    refine lv_if_eq (tgt := 98) hx hb dX7_reached_90 (by decide) (fun c_90 => ?_) (fun c_90 => ?_)
                    · exact absurd c_90 (by decide)
                    · refine lv_iload hx hb dX7_reached_93 (lv_at hl 1 rfl) ?_
                      refine lv_goto (tgt := 99) hx hb dX7_reached_95 (by decide) ?_
                      refine lv_ior hx hb dX7_reached_99 ?_
                      refine lv_istore (lv' := [(4, .int ((passA en cl op se li) ||| ((1 <<< ((en (2 * li)) &&& 31)) ||| (1 <<< ((en ((2 * li) + 1)) &&& 31))))), (9, .int 1), (8, .int ((1 <<< ((en (2 * li)) &&& 31)) ||| (1 <<< ((en ((2 * li) + 1)) &&& 31)))), (0, .ref mo), (2, .int cl), (3, .int op), (6, .int se), (7, .int (nI li))]) hx hb dX7_reached_100 hl (by decide) rfl (fun ls hl => ?_)
                      refine r_iinc (lv' := [(7, .int (nI (li + 1))), (4, .int ((passA en cl op se li) ||| ((1 <<< ((en (2 * li)) &&& 31)) ||| (1 <<< ((en ((2 * li) + 1)) &&& 31))))), (9, .int 1), (8, .int ((1 <<< ((en (2 * li)) &&& 31)) ||| (1 <<< ((en ((2 * li) + 1)) &&& 31)))), (0, .ref mo), (2, .int cl), (3, .int op), (6, .int se)]) hx hb 7 li dX7_reached_102 hl rfl (by decide) rfl (fun ls hl => ?_)
                      refine lv_goto (tgt := 18) hx hb dX7_reached_105 (by decide) ?_
                      exact ih_inn (li + 1) (by omega) (by omega) ls _ _ (by rw [passA, if_pos ⟨c_61, c_69, c_76⟩]; exact lv_sub hl [4, 5, 6, 1, 7, 0] rfl) hP hS
        exact inn _ 0 (by omega) (Nat.lt_succ_self _) ls _ _ (lv_sub hl [2, 3, 4, 5, 1, 0] rfl) hP hS
  exact lp _ 40 1 st ((if_neg (by decide)).trans hy) (Nat.lt_succ_self _) ls _ _ (lv_sub hl [2, 4, 5, 1, 0] rfl) hP hS
def rmX7_power : Room := { frames := 0, cells := 0, slots := 0, locals := 0 }
theorem kdX7_power : yX7_power.cls = RX7 ∧ yX7_power.cls ≠ "java/lang/invoke/MethodHandle" ∧ yX7_power.cls ≠ "java/lang/invoke/VarHandle" ∧ (parseMethodDescriptor yX7_power.desc).map (fun d => d.parameters.length) = some 2 := ⟨rfl, by decide +kernel, by decide +kernel, by decide +kernel⟩
set_option maxRecDepth 100000 in
set_option maxHeartbeats 1000000 in
theorem kX7_power (l : Launch) (D : va_G) (cI cJ : ClassId) (b : Int64) (k : Nat) (hk : k < 2 ^ 31) : Met l yX7_power wsX7_power rmX7_power (rPre D cI cJ [.long b, .int (nI k)] []) (qRL (powL b k)) 0 0 nA := by
  refine startR (cc := cX7_power) (maxL := 6) (ret := (some .long)) (by decide) rfl (Nat.le_of_ble_eq_true rfl) ?_
  intro p e s m args below meth c ls Q hQ hx hb hr hlocks hml hown hts hK hN hP hl hin
  have hown : s.vm.findClass RX7 = some m.cls := hown
  have hS : va_S nA s.heap s.heap [] := va_S.rf
  have hl : lv_has ls 6 [(0, .long b), (2, .int (nI k))] := hl
  have hP : va_P D vwCl [] s.heap := hP
  refine lv_lconst (v := 1) hx hb dX7_power_0 (by decide) ?_
  refine lv_lstore_n (lv' := [(3, .long 1), (0, .long b), (2, .int (nI k))]) hx hb dX7_power_1 rfl hl (by decide) rfl (fun ls hl => ?_)
  refine lv_iconst (v := 0) hx hb dX7_power_2 (by decide) ?_
  refine lv_istore (lv' := [(5, .int 0), (3, .long 1), (0, .long b), (2, .int (nI k))]) hx hb dX7_power_3 hl (by decide) rfl (fun ls hl => ?_)
  have lp : ∀ (fu : Nat) (j : Nat), (j ≤ k) → k - j < fu → ∀ (ls : Array Slot) (H : Heap) (locs : List Loc), lv_has ls 6 [(0, .long b), (2, .int (nI k)), (3, .long (powL b j)), (5, .int (nI j))] → va_P D vwCl [] H → va_S nA s.heap H locs → W p l e rmX7_power s m args below meth c H locs 0 0 Q (F0 m 5 ls []) := by
    intro fu
    induction fu with
    | zero => intro j hj hf; exact absurd hf (Nat.not_lt_zero _)
    | succ fu ih_lp =>
      intro j hj hf ls H locs hl hP hS
      refine lv_iload hx hb dX7_power_5 (lv_at hl 3 rfl) ?_
      refine lv_iload_n hx hb dX7_power_7 rfl (lv_at hl 1 rfl) ?_
      refine r_icmp_ge (tgt := 21) hx hb j k dX7_power_8 (by decide) rfl rfl (by omega) (by omega) (fun c_8 => ?_) (fun c_8 => ?_)
      · refine lv_lload_n hx hb dX7_power_21 rfl (lv_at hl 2 rfl) ?_
        exact endRL hx hb hr hlocks hQ hS dX7_power_22 (by rw [show j = k by omega])
      · refine lv_lload_n hx hb dX7_power_11 rfl (lv_at hl 2 rfl) ?_
        refine lv_lload_n hx hb dX7_power_12 rfl (lv_at hl 0 rfl) ?_
        refine lv_lmul hx hb dX7_power_13 ?_
        refine lv_lstore_n (lv' := [(3, .long ((powL b j) * b)), (0, .long b), (2, .int (nI k)), (5, .int (nI j))]) hx hb dX7_power_14 rfl hl (by decide) rfl (fun ls hl => ?_)
        refine r_iinc (lv' := [(5, .int (nI (j + 1))), (3, .long ((powL b j) * b)), (0, .long b), (2, .int (nI k))]) hx hb 3 j dX7_power_15 hl rfl (by decide) rfl (fun ls hl => ?_)
        refine lv_goto (tgt := 5) hx hb dX7_power_18 (by decide) ?_
        exact ih_lp (j + 1) (by omega) (by omega) ls _ _ (lv_sub hl [2, 3, 1, 0] rfl) hP hS
  exact lp _ 0 (by omega) (Nat.lt_succ_self _) ls _ _ (lv_sub hl [2, 3, 1, 0] rfl) hP hS
def rmX7_chance : Room := { frames := 2, cells := 0, slots := 0, locals := 46 }
theorem kdX7_chance : yX7_chance.cls = RX7 ∧ yX7_chance.cls ≠ "java/lang/invoke/MethodHandle" ∧ yX7_chance.cls ≠ "java/lang/invoke/VarHandle" ∧ (parseMethodDescriptor yX7_chance.desc).map (fun d => d.parameters.length) = some 6 := ⟨rfl, by decide +kernel, by decide +kernel, by decide +kernel⟩
set_option maxRecDepth 100000 in
set_option maxHeartbeats 1000000 in
theorem kX7_chance (l : Launch) (D : va_G) (cI cJ : ClassId) (mo : Nat) (nn : Nat) (mm : Nat) (me : Nat) (mj : Nat) (mw : Nat) (mp : Nat) (mu : Nat) (ke : Bool) (bd : Int32) (ml : Nat) (sq : Nat) (mq : Nat) (fi : Int32) (gu : Int32) (le : Int32) (cs : Int32) (ba : Bool) (ov : Int32) (m1 : Nat) (m2 : Nat) (m3 : Nat) (m4 : Nat) (lk : Int32) (sp : Bool) (bs : Int32) (bo : Int32) (m5 : Nat) (m6 : Nat) (m7 : Nat) (su : Int32) (sl : Int32) (m8 : Nat) (lo : Int32) (sh : Int32) (en : Row) (kn st gd a b what : Int32) (RS : Nat → Int32) (g : Int64) (hn10 : nn ≤ 10) (hm : mm ≤ 24) (hRS : ∀ o, o < 2 ^ mm → reachL en mm (gd &&& (st ^^^ (-1))) (nI o) 40 st = some (RS o)) (hg : chanV nn mm kn st gd a b what → gcdQ 60 (chanA RS kn a b mm (2 ^ mm)) (powL b.toInt64 mm) = some g ∧ g ≠ 0) : Met l yX7_chance wsX7_chance rmX7_chance (rPre D cI cJ [.ref mo, .int kn, .int st, .int gd, .int a, .int b, .int what] [(mo, .inr (7, moV (nI nn) (nI mm) me mj mw mp mu (zb (ke = true)) bd ml (nI sq) mq fi gu le cs (zb (ba = true)) ov m1 m2 m3 m4 lk (zb (sp = true)) bs bo m5 m6 m7 su sl m8 lo sh)), (me, .inl (cI, 48, .inl en))]) (qRL (chanceR nn mm (chanA RS kn a b mm (2 ^ mm)) (powL b.toInt64 mm) g kn st gd a b what)) 0 0 nA := by
  refine startR (cc := cX7_chance) (maxL := 17) (ret := (some .long)) (by decide) rfl (Nat.le_of_ble_eq_true rfl) ?_
  intro p e s m args below meth c ls Q hQ hx hb hr hlocks hml hown hts hK hN hP hl hin
  have hown : s.vm.findClass RX7 = some m.cls := hown
  have hi_7 : ∀ w ∈ wsX70, w ∈ wsX7_chance := by decide +kernel
  have hf_65 := hts (.fieldLink RX7 65 "FireNetsModel" "lines" "I") (by decide +kernel)
  have hc_221 := hts (.constantLong RX7 221 (-1002)) (by decide +kernel)
  have hc_219 := hts (.constantLong RX7 219 (6)) (by decide +kernel)
  have hc_223 := hts (.constantLong RX7 223 (-1003)) (by decide +kernel)
  have hc_217 := hts (.constantLong RX7 217 (-1001)) (by decide +kernel)
  have hS : va_S nA s.heap s.heap [] := va_S.rf
  have hl : lv_has ls 17 [(0, .ref mo), (1, .int kn), (2, .int st), (3, .int gd), (4, .int a), (5, .int b), (6, .int what)] := hl
  have hP : va_P D vwCl [(mo, .inr (7, moV (nI nn) (nI mm) me mj mw mp mu (zb (ke = true)) bd ml (nI sq) mq fi gu le cs (zb (ba = true)) ov m1 m2 m3 m4 lk (zb (sp = true)) bs bo m5 m6 m7 su sl m8 lo sh)), (me, .inl (cI, 48, .inl en))] s.heap := hP
  refine lv_aload_n hx hb dX7_chance_0 rfl (lv_at hl 0 rfl) ?_
  refine lv_iload_n hx hb dX7_chance_1 rfl (lv_at hl 1 rfl) ?_
  refine goRI hP hS (va_runV (As := [.int kn]) (rest := []) ⟨hx, hb, hml, hown, hts⟩ (kX7_isNode l D cI cJ mo nn mm me mj mw mp mu ke bd ml sq mq fi gu le cs ba ov m1 m2 m3 m4 lk sp bs bo m5 m6 m7 su sl m8 lo sh kn) (cwV 1 hts gX7_chance_X7_isNode rfl rfl rfl kdX7_isNode ⟨Nat.le_of_ble_eq_true rfl, Nat.le_of_ble_eq_true rfl⟩) (preRV hK hN hP 0 (ci := 7) rfl rfl rfl [0] rfl) rfl rfl hl.1 rfl (lv_room (Nat.le_of_ble_eq_true rfl)) dX7_chance_2 ⟨Nat.zero_le _, Nat.zero_le _⟩) (fun H locs hP hS => ?_)
  refine r_zne (tgt := 12) hx hb dX7_chance_5 (by decide) (fun c_5 => ?_) (fun c_5 => ?_)
  · refine lv_aload_n hx hb dX7_chance_12 rfl (lv_at hl 0 rfl) ?_
    refine lv_iload_n hx hb dX7_chance_13 rfl (lv_at hl 2 rfl) ?_
    refine goRI hP hS (va_runV (As := [.int st]) (rest := []) ⟨hx, hb, hml, hown, hts⟩ (kX7_isFire l D cI cJ mo nn mm me mj mw mp mu ke bd ml sq mq fi gu le cs ba ov m1 m2 m3 m4 lk sp bs bo m5 m6 m7 su sl m8 lo sh st) (cwV 1 hts gX7_chance_X7_isFire rfl rfl rfl kdX7_isFire ⟨Nat.le_of_ble_eq_true rfl, Nat.le_of_ble_eq_true rfl⟩) (preRV hK hN hP 0 (ci := 7) rfl rfl rfl [0] rfl) rfl rfl hl.1 rfl (lv_room (Nat.le_of_ble_eq_true rfl)) dX7_chance_14 ⟨Nat.zero_le _, Nat.zero_le _⟩) (fun H locs hP hS => ?_)
    refine r_zeq (tgt := 71) hx hb dX7_chance_17 (by decide) (fun c_17 => ?_) (fun c_17 => ?_)
    · refine lv_ldc2 (v := (-1002)) hx hb hown hc_221 dX7_chance_71 ?_
      exact endRL hx hb hr hlocks hQ hS dX7_chance_74 (by unfold chanceR; (first | rw [if_pos c_5] | rw [if_neg c_5] | rw [if_neg (Nat.not_lt.mpr c_5)] | rw [if_neg (Nat.not_le.mpr c_5)] | rw [if_neg (i_nlt c_5)] | rw [if_neg (i_nle c_5)] | rw [if_pos (i_lt c_5)] | rw [if_pos (i_le c_5)]); (first | rw [if_pos c_17] | rw [if_neg c_17] | rw [if_neg (Nat.not_lt.mpr c_17)] | rw [if_neg (Nat.not_le.mpr c_17)] | rw [if_neg (i_nlt c_17)] | rw [if_neg (i_nle c_17)] | rw [if_pos (i_lt c_17)] | rw [if_pos (i_le c_17)]))
    · refine lv_iload_n hx hb dX7_chance_20 rfl (lv_at hl 3 rfl) ?_
      refine lv_i2l (v := gd.toInt64) hx hb dX7_chance_21 rfl ?_
      refine lv_lconst (v := 0) hx hb dX7_chance_22 (by decide) ?_
      refine lv_aload_n hx hb dX7_chance_23 rfl (lv_at hl 0 rfl) ?_
      refine goRI hP hS (va_runV (As := []) (rest := [.long 0, .long gd.toInt64]) ⟨hx, hb, hml, hown, hts⟩ (kX7_all l D cI cJ mo nn mm me mj mw mp mu ke bd ml sq mq fi gu le cs ba ov m1 m2 m3 m4 lk sp bs bo m5 m6 m7 su sl m8 lo sh) (cwV 0 hts gX7_chance_X7_all rfl rfl rfl kdX7_all ⟨Nat.le_of_ble_eq_true rfl, Nat.le_of_ble_eq_true rfl⟩) (preRV hK hN hP 0 (ci := 7) rfl rfl rfl [0] rfl) rfl rfl hl.1 rfl (lv_room (Nat.le_of_ble_eq_true rfl)) dX7_chance_24 ⟨Nat.zero_le _, Nat.zero_le _⟩) (fun H locs hP hS => ?_)
      refine lv_i2l (v := (allI (nI nn)).toInt64) hx hb dX7_chance_27 rfl ?_
      refine goRI hP hS (va_runS (As := [.long gd.toInt64, .long 0, .long ((allI (nI nn)).toInt64)]) (rest := []) ⟨hx, hb, hml, hown, hts⟩ (kX7_in l D cI cJ gd.toInt64 0 ((allI (nI nn)).toInt64)) (va_cwS 3 hts gX7_chance_X7_in rfl rfl rfl kdX7_in.2 ⟨Nat.le_of_ble_eq_true rfl, Nat.le_of_ble_eq_true rfl⟩) (preR hK hN hP [] rfl) rfl rfl hl.1 rfl (lv_room (Nat.le_of_ble_eq_true rfl)) dX7_chance_28 ⟨Nat.zero_le _, Nat.zero_le _⟩) (fun H locs hP hS => ?_)
      refine r_top (x' := zb (0 ≤ gd ∧ gd ≤ allI (nI nn))) (zb_iff (in_c (by first | rfl | decide) (by first | rfl | decide))) ?_
      refine r_zeq (tgt := 71) hx hb dX7_chance_31 (by decide) (fun c_31 => ?_) (fun c_31 => ?_)
      · refine lv_ldc2 (v := (-1002)) hx hb hown hc_221 dX7_chance_71 ?_
        exact endRL hx hb hr hlocks hQ hS dX7_chance_74 (by unfold chanceR; (first | rw [if_pos c_5] | rw [if_neg c_5] | rw [if_neg (Nat.not_lt.mpr c_5)] | rw [if_neg (Nat.not_le.mpr c_5)] | rw [if_neg (i_nlt c_5)] | rw [if_neg (i_nle c_5)] | rw [if_pos (i_lt c_5)] | rw [if_pos (i_le c_5)]); (first | rw [if_pos c_17] | rw [if_neg c_17] | rw [if_neg (Nat.not_lt.mpr c_17)] | rw [if_neg (Nat.not_le.mpr c_17)] | rw [if_neg (i_nlt c_17)] | rw [if_neg (i_nle c_17)] | rw [if_pos (i_lt c_17)] | rw [if_pos (i_le c_17)]); (first | rw [if_pos c_31] | rw [if_neg c_31] | rw [if_neg (Nat.not_lt.mpr c_31)] | rw [if_neg (Nat.not_le.mpr c_31)] | rw [if_neg (i_nlt c_31)] | rw [if_neg (i_nle c_31)] | rw [if_pos (i_lt c_31)] | rw [if_pos (i_le c_31)]))
      · refine lv_iload hx hb dX7_chance_34 (lv_at hl 5 rfl) ?_
        refine lv_i2l (v := b.toInt64) hx hb dX7_chance_36 rfl ?_
        refine lv_lconst (v := 1) hx hb dX7_chance_37 (by decide) ?_
        refine lv_ldc2 (v := 6) hx hb hown hc_219 dX7_chance_38 ?_
        refine goRI hP hS (va_runS (As := [.long b.toInt64, .long 1, .long 6]) (rest := []) ⟨hx, hb, hml, hown, hts⟩ (kX7_in l D cI cJ b.toInt64 1 6) (va_cwS 3 hts gX7_chance_X7_in rfl rfl rfl kdX7_in.2 ⟨Nat.le_of_ble_eq_true rfl, Nat.le_of_ble_eq_true rfl⟩) (preR hK hN hP [] rfl) rfl rfl hl.1 rfl (lv_room (Nat.le_of_ble_eq_true rfl)) dX7_chance_41 ⟨Nat.zero_le _, Nat.zero_le _⟩) (fun H locs hP hS => ?_)
        refine r_top (x' := zb (1 ≤ b ∧ b ≤ 6)) (zb_iff (in_c (by first | rfl | decide) (by first | rfl | decide))) ?_
        refine r_zeq (tgt := 71) hx hb dX7_chance_44 (by decide) (fun c_44 => ?_) (fun c_44 => ?_)
        · refine lv_ldc2 (v := (-1002)) hx hb hown hc_221 dX7_chance_71 ?_
          exact endRL hx hb hr hlocks hQ hS dX7_chance_74 (by unfold chanceR; (first | rw [if_pos c_5] | rw [if_neg c_5] | rw [if_neg (Nat.not_lt.mpr c_5)] | rw [if_neg (Nat.not_le.mpr c_5)] | rw [if_neg (i_nlt c_5)] | rw [if_neg (i_nle c_5)] | rw [if_pos (i_lt c_5)] | rw [if_pos (i_le c_5)]); (first | rw [if_pos c_17] | rw [if_neg c_17] | rw [if_neg (Nat.not_lt.mpr c_17)] | rw [if_neg (Nat.not_le.mpr c_17)] | rw [if_neg (i_nlt c_17)] | rw [if_neg (i_nle c_17)] | rw [if_pos (i_lt c_17)] | rw [if_pos (i_le c_17)]); (first | rw [if_pos c_31] | rw [if_neg c_31] | rw [if_neg (Nat.not_lt.mpr c_31)] | rw [if_neg (Nat.not_le.mpr c_31)] | rw [if_neg (i_nlt c_31)] | rw [if_neg (i_nle c_31)] | rw [if_pos (i_lt c_31)] | rw [if_pos (i_le c_31)]); (first | rw [if_pos c_44] | rw [if_neg c_44] | rw [if_neg (Nat.not_lt.mpr c_44)] | rw [if_neg (Nat.not_le.mpr c_44)] | rw [if_neg (i_nlt c_44)] | rw [if_neg (i_nle c_44)] | rw [if_pos (i_lt c_44)] | rw [if_pos (i_le c_44)]))
        · refine lv_iload hx hb dX7_chance_47 (lv_at hl 4 rfl) ?_
          refine lv_i2l (v := a.toInt64) hx hb dX7_chance_49 rfl ?_
          refine lv_lconst (v := 0) hx hb dX7_chance_50 (by decide) ?_
          refine lv_iload hx hb dX7_chance_51 (lv_at hl 5 rfl) ?_
          refine lv_i2l (v := b.toInt64) hx hb dX7_chance_53 rfl ?_
          refine goRI hP hS (va_runS (As := [.long a.toInt64, .long 0, .long b.toInt64]) (rest := []) ⟨hx, hb, hml, hown, hts⟩ (kX7_in l D cI cJ a.toInt64 0 b.toInt64) (va_cwS 3 hts gX7_chance_X7_in rfl rfl rfl kdX7_in.2 ⟨Nat.le_of_ble_eq_true rfl, Nat.le_of_ble_eq_true rfl⟩) (preR hK hN hP [] rfl) rfl rfl hl.1 rfl (lv_room (Nat.le_of_ble_eq_true rfl)) dX7_chance_54 ⟨Nat.zero_le _, Nat.zero_le _⟩) (fun H locs hP hS => ?_)
          refine r_top (x' := zb (0 ≤ a ∧ a ≤ b)) (zb_iff (in_c (by first | rfl | decide) (by first | rfl | decide))) ?_
          refine r_zeq (tgt := 71) hx hb dX7_chance_57 (by decide) (fun c_57 => ?_) (fun c_57 => ?_)
          · refine lv_ldc2 (v := (-1002)) hx hb hown hc_221 dX7_chance_71 ?_
            exact endRL hx hb hr hlocks hQ hS dX7_chance_74 (by unfold chanceR; (first | rw [if_pos c_5] | rw [if_neg c_5] | rw [if_neg (Nat.not_lt.mpr c_5)] | rw [if_neg (Nat.not_le.mpr c_5)] | rw [if_neg (i_nlt c_5)] | rw [if_neg (i_nle c_5)] | rw [if_pos (i_lt c_5)] | rw [if_pos (i_le c_5)]); (first | rw [if_pos c_17] | rw [if_neg c_17] | rw [if_neg (Nat.not_lt.mpr c_17)] | rw [if_neg (Nat.not_le.mpr c_17)] | rw [if_neg (i_nlt c_17)] | rw [if_neg (i_nle c_17)] | rw [if_pos (i_lt c_17)] | rw [if_pos (i_le c_17)]); (first | rw [if_pos c_31] | rw [if_neg c_31] | rw [if_neg (Nat.not_lt.mpr c_31)] | rw [if_neg (Nat.not_le.mpr c_31)] | rw [if_neg (i_nlt c_31)] | rw [if_neg (i_nle c_31)] | rw [if_pos (i_lt c_31)] | rw [if_pos (i_le c_31)]); (first | rw [if_pos c_44] | rw [if_neg c_44] | rw [if_neg (Nat.not_lt.mpr c_44)] | rw [if_neg (Nat.not_le.mpr c_44)] | rw [if_neg (i_nlt c_44)] | rw [if_neg (i_nle c_44)] | rw [if_pos (i_lt c_44)] | rw [if_pos (i_le c_44)]); (first | rw [if_pos c_57] | rw [if_neg c_57] | rw [if_neg (Nat.not_lt.mpr c_57)] | rw [if_neg (Nat.not_le.mpr c_57)] | rw [if_neg (i_nlt c_57)] | rw [if_neg (i_nle c_57)] | rw [if_pos (i_lt c_57)] | rw [if_pos (i_le c_57)]))
          · refine lv_iload hx hb dX7_chance_60 (lv_at hl 6 rfl) ?_
            refine lv_i2l (v := what.toInt64) hx hb dX7_chance_62 rfl ?_
            refine lv_lconst (v := 0) hx hb dX7_chance_63 (by decide) ?_
            refine lv_lconst (v := 1) hx hb dX7_chance_64 (by decide) ?_
            refine goRI hP hS (va_runS (As := [.long what.toInt64, .long 0, .long 1]) (rest := []) ⟨hx, hb, hml, hown, hts⟩ (kX7_in l D cI cJ what.toInt64 0 1) (va_cwS 3 hts gX7_chance_X7_in rfl rfl rfl kdX7_in.2 ⟨Nat.le_of_ble_eq_true rfl, Nat.le_of_ble_eq_true rfl⟩) (preR hK hN hP [] rfl) rfl rfl hl.1 rfl (lv_room (Nat.le_of_ble_eq_true rfl)) dX7_chance_65 ⟨Nat.zero_le _, Nat.zero_le _⟩) (fun H locs hP hS => ?_)
            refine r_top (x' := zb (0 ≤ what ∧ what ≤ 1)) (zb_iff (in_c (by first | rfl | decide) (by first | rfl | decide))) ?_
            refine r_zne (tgt := 75) hx hb dX7_chance_68 (by decide) (fun c_68 => ?_) (fun c_68 => ?_)
            · refine lv_aload_n hx hb dX7_chance_75 rfl (lv_at hl 0 rfl) ?_
              refine va_get (D := D) (ci := 7) (v := .int (nI mm)) (C := RX7) (T := TX7) (N := 34) hx hb hts hi_7 hown hK hP 0 rfl rfl 1 (by decide) hf_65 (fun _ h9 => h9) rfl dX7_chance_76 ?_
              refine lv_bipush (v := 12) hx hb dX7_chance_79 (by decide) ?_
              refine r_icmp_le (tgt := 88) hx hb mm 12 dX7_chance_81 (by decide) rfl rfl (by omega) (by omega) (fun c_81 => ?_) (fun c_81 => ?_)
              · obtain ⟨qn, hqn⟩ : ∃ z, z = 2 ^ mm := ⟨_, rfl⟩
                have hqb : qn ≤ 4096 := hqn ▸ pow_b c_81
                obtain ⟨hgq, hg0⟩ := hg ⟨c_5, c_17, c_31, c_44, c_57, c_68, c_81⟩
                refine lv_lconst (v := 0) hx hb dX7_chance_88 (by decide) ?_
                refine lv_lstore (lv' := [(7, .long 0), (0, .ref mo), (1, .int kn), (2, .int st), (3, .int gd), (4, .int a), (5, .int b), (6, .int what)]) hx hb dX7_chance_89 hl (by decide) rfl (fun ls hl => ?_)
                refine lv_iconst (v := 0) hx hb dX7_chance_91 (by decide) ?_
                refine lv_istore (lv' := [(9, .int 0), (7, .long 0), (0, .ref mo), (1, .int kn), (2, .int st), (3, .int gd), (4, .int a), (5, .int b), (6, .int what)]) hx hb dX7_chance_92 hl (by decide) rfl (fun ls hl => ?_)
                have lp : ∀ (fu : Nat) (o : Nat), (o ≤ qn) → qn - o < fu → ∀ (ls : Array Slot) (H : Heap) (locs : List Loc), lv_has ls 17 [(0, .ref mo), (1, .int kn), (2, .int st), (3, .int gd), (4, .int a), (5, .int b), (6, .int what), (7, .long (chanA RS kn a b mm o)), (9, .int (nI o))] → va_P D vwCl [(mo, .inr (7, moV (nI nn) (nI mm) me mj mw mp mu (zb (ke = true)) bd ml (nI sq) mq fi gu le cs (zb (ba = true)) ov m1 m2 m3 m4 lk (zb (sp = true)) bs bo m5 m6 m7 su sl m8 lo sh)), (me, .inl (cI, 48, .inl en))] H → va_S nA s.heap H locs → W p l e rmX7_chance s m args below meth c H locs 0 0 Q (F0 m 94 ls []) := by
                  intro fu
                  induction fu with
                  | zero => intro o ho hf; exact absurd hf (Nat.not_lt_zero _)
                  | succ fu ih_lp =>
                    intro o ho hf ls H locs hl hP hS
                    refine lv_iload hx hb dX7_chance_94 (lv_at hl 8 rfl) ?_
                    refine lv_iconst (v := 1) hx hb dX7_chance_96 (by decide) ?_
                    refine lv_aload_n hx hb dX7_chance_97 rfl (lv_at hl 0 rfl) ?_
                    refine va_get (D := D) (ci := 7) (v := .int (nI mm)) (C := RX7) (T := TX7) (N := 34) hx hb hts hi_7 hown hK hP 0 rfl rfl 1 (by decide) hf_65 (fun _ h9 => h9) rfl dX7_chance_98 ?_
                    refine lv_ishl hx hb dX7_chance_101 ?_
                    refine r_top (x' := nI qn) ((shl_nat (by omega)).trans (by rw [hqn])) ?_
                    refine r_icmp_ge (tgt := 210) hx hb o qn dX7_chance_102 (by decide) rfl rfl (by omega) (by omega) (fun c_102 => ?_) (fun c_102 => ?_)
                    · refine lv_iload hx hb dX7_chance_210 (lv_at hl 5 rfl) ?_
                      refine lv_i2l (v := b.toInt64) hx hb dX7_chance_212 rfl ?_
                      refine lv_aload_n hx hb dX7_chance_213 rfl (lv_at hl 0 rfl) ?_
                      refine va_get (D := D) (ci := 7) (v := .int (nI mm)) (C := RX7) (T := TX7) (N := 34) hx hb hts hi_7 hown hK hP 0 rfl rfl 1 (by decide) hf_65 (fun _ h9 => h9) rfl dX7_chance_214 ?_
                      refine goRL hP hS (va_runS (As := [.long b.toInt64, .int (nI mm)]) (rest := []) ⟨hx, hb, hml, hown, hts⟩ (kX7_power l D cI cJ b.toInt64 mm (by omega)) (va_cwS 2 hts gX7_chance_X7_power rfl rfl rfl kdX7_power.2 ⟨Nat.le_of_ble_eq_true rfl, Nat.le_of_ble_eq_true rfl⟩) (preR hK hN hP [] rfl) rfl rfl hl.1 rfl (lv_room (Nat.le_of_ble_eq_true rfl)) dX7_chance_217 ⟨Nat.zero_le _, Nat.zero_le _⟩) (fun H locs hP hS => ?_)
                      refine lv_lstore (lv' := [(9, .long (powL b.toInt64 mm)), (0, .ref mo), (1, .int kn), (2, .int st), (3, .int gd), (4, .int a), (5, .int b), (6, .int what), (7, .long (chanA RS kn a b mm o))]) hx hb dX7_chance_220 hl (by decide) rfl (fun ls hl => ?_)
                      refine lv_lload hx hb dX7_chance_222 (lv_at hl 8 rfl) ?_
                      refine lv_lstore (lv' := [(11, .long (chanA RS kn a b mm o)), (9, .long (powL b.toInt64 mm)), (0, .ref mo), (1, .int kn), (2, .int st), (3, .int gd), (4, .int a), (5, .int b), (6, .int what), (7, .long (chanA RS kn a b mm o))]) hx hb dX7_chance_224 hl (by decide) rfl (fun ls hl => ?_)
                      refine lv_lload hx hb dX7_chance_226 (lv_at hl 1 rfl) ?_
                      refine lv_lstore (lv' := [(13, .long (powL b.toInt64 mm)), (11, .long (chanA RS kn a b mm o)), (9, .long (powL b.toInt64 mm)), (0, .ref mo), (1, .int kn), (2, .int st), (3, .int gd), (4, .int a), (5, .int b), (6, .int what), (7, .long (chanA RS kn a b mm o))]) hx hb dX7_chance_228 hl (by decide) rfl (fun ls hl => ?_)
                      have gl : ∀ (fu : Nat) (j : Nat) (x y : Int64), (gcdQ j x y = some g) → j < fu → ∀ (ls : Array Slot) (H : Heap) (locs : List Loc), lv_has ls 17 [(6, .int what), (7, .long (chanA RS kn a b mm (2 ^ mm))), (9, .long (powL b.toInt64 mm)), (11, .long x), (13, .long y)] → va_P D vwCl [(mo, .inr (7, moV (nI nn) (nI mm) me mj mw mp mu (zb (ke = true)) bd ml (nI sq) mq fi gu le cs (zb (ba = true)) ov m1 m2 m3 m4 lk (zb (sp = true)) bs bo m5 m6 m7 su sl m8 lo sh)), (me, .inl (cI, 48, .inl en))] H → va_S nA s.heap H locs → W p l e rmX7_chance s m args below meth c H locs 0 0 Q (F0 m 230 ls []) := by
                        intro fu
                        induction fu with
                        | zero => intro j x y hq hf; exact absurd hf (Nat.not_lt_zero _)
                        | succ fu ih_gl =>
                          intro j x y hq hf ls H locs hl hP hS
                          obtain ⟨j, rfl⟩ : ∃ i, j = i + 1 := by cases j with | zero => exact absurd hq (by intro h; cases h) | succ i => exact ⟨i, rfl⟩
                          refine lv_lload hx hb dX7_chance_230 (lv_at hl 4 rfl) ?_
                          refine lv_lconst (v := 0) hx hb dX7_chance_232 (by decide) ?_
                          refine W.lcmp hx hb dX7_chance_233 ?_
                          refine lv_if_eq (tgt := 255) hx hb dX7_chance_234 (by decide) (fun c_234 => ?_) (fun c_234 => ?_)
                          · have hx1 : x = g := by (rw [gcdQ, if_pos ((lg_cmp_eq _ _).mp c_234)] at hq; cases hq; rfl)
                            have hg1 : x ≠ 0 := by rw [hx1]; exact hg0
                            refine lv_iload hx hb dX7_chance_255 (lv_at hl 0 rfl) ?_
                            refine lv_if_ne (tgt := 268) hx hb dX7_chance_257 (by decide) (fun c_257 => ?_) (fun c_257 => ?_)
                            · refine lv_lload hx hb dX7_chance_268 (lv_at hl 2 rfl) ?_
                              refine lv_lload hx hb dX7_chance_270 (lv_at hl 3 rfl) ?_
                              refine lv_ldiv hx hb dX7_chance_272 hg1 ?_
                              exact endRL hx hb hr hlocks hQ hS dX7_chance_273 (by rw [chanceR, if_pos c_5, if_pos c_17, if_pos c_31, if_pos c_44, if_pos c_57, if_pos c_68, if_pos c_81, ← hx1]; first | rw [if_pos c_257] | rw [if_neg c_257])
                            · refine lv_lload hx hb dX7_chance_260 (lv_at hl 1 rfl) ?_
                              refine lv_lload hx hb dX7_chance_262 (lv_at hl 3 rfl) ?_
                              refine lv_ldiv hx hb dX7_chance_264 hg1 ?_
                              refine lv_goto (tgt := 273) hx hb dX7_chance_265 (by decide) ?_
                              exact endRL hx hb hr hlocks hQ hS dX7_chance_273 (by rw [chanceR, if_pos c_5, if_pos c_17, if_pos c_31, if_pos c_44, if_pos c_57, if_pos c_68, if_pos c_81, ← hx1]; first | rw [if_pos c_257] | rw [if_neg c_257])
                          · refine lv_lload hx hb dX7_chance_237 (lv_at hl 3 rfl) ?_
                            refine lv_lload hx hb dX7_chance_239 (lv_at hl 4 rfl) ?_
                            refine lv_lrem hx hb dX7_chance_241 (fun h => c_234 ((lg_cmp_eq _ _).mpr h)) ?_
                            refine lv_lstore (lv' := [(15, .long (x - x / y * y)), (6, .int what), (7, .long (chanA RS kn a b mm (2 ^ mm))), (9, .long (powL b.toInt64 mm)), (11, .long x), (13, .long y)]) hx hb dX7_chance_242 hl (by decide) rfl (fun ls hl => ?_)
                            refine lv_lload hx hb dX7_chance_244 (lv_at hl 5 rfl) ?_
                            refine lv_lstore (lv' := [(11, .long y), (15, .long (x - x / y * y)), (6, .int what), (7, .long (chanA RS kn a b mm (2 ^ mm))), (9, .long (powL b.toInt64 mm)), (13, .long y)]) hx hb dX7_chance_246 hl (by decide) rfl (fun ls hl => ?_)
                            refine lv_lload hx hb dX7_chance_248 (lv_at hl 1 rfl) ?_
                            refine lv_lstore (lv' := [(13, .long (x - x / y * y)), (11, .long y), (15, .long (x - x / y * y)), (6, .int what), (7, .long (chanA RS kn a b mm (2 ^ mm))), (9, .long (powL b.toInt64 mm))]) hx hb dX7_chance_250 hl (by decide) rfl (fun ls hl => ?_)
                            refine lv_goto (tgt := 230) hx hb dX7_chance_252 (by decide) ?_
                            exact ih_gl j y (x - x / y * y) (by rw [← hq, gcdQ, if_neg (fun h => c_234 ((lg_cmp_eq _ _).mpr h))]) (by omega) ls _ _ (lv_sub hl [3, 4, 5, 1, 0] rfl) hP hS
                      have eo : o = 2 ^ mm := by omega
                      exact gl _ 60 (chanA RS kn a b mm (2 ^ mm)) (powL b.toInt64 mm) hgq (Nat.lt_succ_self _) ls _ _ (by rw [eo] at hl; exact lv_sub hl [9, 10, 2, 1, 0] rfl) hP hS
                    · refine lv_iconst (v := 0) hx hb dX7_chance_105 (by decide) ?_
                      refine lv_istore (lv' := [(10, .int 0), (0, .ref mo), (1, .int kn), (2, .int st), (3, .int gd), (4, .int a), (5, .int b), (6, .int what), (7, .long (chanA RS kn a b mm o)), (9, .int (nI o))]) hx hb dX7_chance_106 hl (by decide) rfl (fun ls hl => ?_)
                      refine lv_iconst (v := 0) hx hb dX7_chance_108 (by decide) ?_
                      refine lv_istore (lv' := [(11, .int 0), (10, .int 0), (0, .ref mo), (1, .int kn), (2, .int st), (3, .int gd), (4, .int a), (5, .int b), (6, .int what), (7, .long (chanA RS kn a b mm o)), (9, .int (nI o))]) hx hb dX7_chance_109 hl (by decide) rfl (fun ls hl => ?_)
                      have inn : ∀ (fu : Nat) (li : Nat), (li ≤ mm) → mm - li < fu → ∀ (ls : Array Slot) (H : Heap) (locs : List Loc), lv_has ls 17 [(0, .ref mo), (1, .int kn), (2, .int st), (3, .int gd), (4, .int a), (5, .int b), (6, .int what), (7, .long (chanA RS kn a b mm o)), (9, .int (nI o)), (10, .int (nI (bitsN (nI o) li))), (11, .int (nI li))] → va_P D vwCl [(mo, .inr (7, moV (nI nn) (nI mm) me mj mw mp mu (zb (ke = true)) bd ml (nI sq) mq fi gu le cs (zb (ba = true)) ov m1 m2 m3 m4 lk (zb (sp = true)) bs bo m5 m6 m7 su sl m8 lo sh)), (me, .inl (cI, 48, .inl en))] H → va_S nA s.heap H locs → W p l e rmX7_chance s m args below meth c H locs 0 0 Q (F0 m 111 ls []) := by
                        intro fu
                        induction fu with
                        | zero => intro li hl9 hf; exact absurd hf (Nat.not_lt_zero _)
                        | succ fu ih_inn =>
                          intro li hl9 hf ls H locs hl hP hS
                          refine lv_iload hx hb dX7_chance_111 (lv_at hl 10 rfl) ?_
                          refine lv_aload_n hx hb dX7_chance_113 rfl (lv_at hl 0 rfl) ?_
                          refine va_get (D := D) (ci := 7) (v := .int (nI mm)) (C := RX7) (T := TX7) (N := 34) hx hb hts hi_7 hown hK hP 0 rfl rfl 1 (by decide) hf_65 (fun _ h9 => h9) rfl dX7_chance_114 ?_
                          refine r_icmp_ge (tgt := 138) hx hb li mm dX7_chance_117 (by decide) rfl rfl (by omega) (by omega) (fun c_117 => ?_) (fun c_117 => ?_)
                          · obtain rfl : mm = li := (by omega)
                            have hbb := bitsN_le (nI o) mm
                            refine lv_aload_n hx hb dX7_chance_138 rfl (lv_at hl 0 rfl) ?_
                            refine lv_iload_n hx hb dX7_chance_139 rfl (lv_at hl 2 rfl) ?_
                            refine lv_iload_n hx hb dX7_chance_140 rfl (lv_at hl 3 rfl) ?_
                            refine lv_iload_n hx hb dX7_chance_141 rfl (lv_at hl 2 rfl) ?_
                            refine lv_iconst (v := (-1)) hx hb dX7_chance_142 (by decide) ?_
                            refine lv_ixor hx hb dX7_chance_143 ?_
                            refine lv_iand hx hb dX7_chance_144 ?_
                            refine lv_iload hx hb dX7_chance_145 (lv_at hl 8 rfl) ?_
                            refine goRI hP hS (va_runV (As := [.int st, .int (gd &&& (st ^^^ (-1))), .int (nI o)]) (rest := []) ⟨hx, hb, hml, hown, hts⟩ (kX7_reached l D cI cJ mo nn mm me mj mw mp mu ke bd ml sq mq fi gu le cs ba ov m1 m2 m3 m4 lk sp bs bo m5 m6 m7 su sl m8 lo sh en st (gd &&& (st ^^^ (-1))) (nI o) (RS o) (by omega) (hRS o (by omega))) (cwV 3 hts gX7_chance_X7_reached rfl rfl rfl kdX7_reached ⟨Nat.le_of_ble_eq_true rfl, Nat.le_of_ble_eq_true rfl⟩) (preRV hK hN hP 0 (ci := 7) rfl rfl rfl [0, 1] rfl) rfl rfl hl.1 rfl (lv_room (Nat.le_of_ble_eq_true rfl)) dX7_chance_147 ⟨Nat.zero_le _, Nat.zero_le _⟩) (fun H locs hP hS => ?_)
                            refine lv_iload_n hx hb dX7_chance_150 rfl (lv_at hl 1 rfl) ?_
                            refine lv_ishr hx hb dX7_chance_151 ?_
                            refine lv_iconst (v := 1) hx hb dX7_chance_152 (by decide) ?_
                            refine lv_iand hx hb dX7_chance_153 ?_
                            refine lv_iconst (v := 1) hx hb dX7_chance_154 (by decide) ?_
                            refine lv_icmp_ne (tgt := 162) hx hb dX7_chance_155 (by decide) (fun c_155 => ?_) (fun c_155 => ?_)
                            · refine lv_iconst (v := 0) hx hb dX7_chance_162 (by decide) ?_
                              refine lv_istore (lv' := [(11, .int 0), (0, .ref mo), (1, .int kn), (2, .int st), (3, .int gd), (4, .int a), (5, .int b), (6, .int what), (7, .long (chanA RS kn a b mm o)), (9, .int (nI o)), (10, .int (nI (bitsN (nI o) mm)))]) hx hb dX7_chance_163 hl (by decide) rfl (fun ls hl => ?_)
                              refine lv_lload hx hb dX7_chance_165 (lv_at hl 8 rfl) ?_
                              refine lv_iload hx hb dX7_chance_167 (lv_at hl 0 rfl) ?_
                              refine lv_if_eq (tgt := 200) hx hb dX7_chance_169 (by decide) (fun c_169 => ?_) (fun c_169 => ?_)
                              · refine lv_lconst (v := 0) hx hb dX7_chance_200 (by decide) ?_
                                refine lv_ladd hx hb dX7_chance_201 ?_
                                refine lv_lstore (lv' := [(7, .long ((chanA RS kn a b mm o) + 0)), (11, .int 0), (0, .ref mo), (1, .int kn), (2, .int st), (3, .int gd), (4, .int a), (5, .int b), (6, .int what), (9, .int (nI o)), (10, .int (nI (bitsN (nI o) mm)))]) hx hb dX7_chance_202 hl (by decide) rfl (fun ls hl => ?_)
                                refine r_iinc (lv' := [(9, .int (nI (o + 1))), (7, .long ((chanA RS kn a b mm o) + 0)), (11, .int 0), (0, .ref mo), (1, .int kn), (2, .int st), (3, .int gd), (4, .int a), (5, .int b), (6, .int what), (10, .int (nI (bitsN (nI o) mm)))]) hx hb 9 o dX7_chance_204 hl rfl (by decide) rfl (fun ls hl => ?_)
                                refine lv_goto (tgt := 94) hx hb dX7_chance_207 (by decide) ?_
                                exact ih_lp (o + 1) (by omega) (by omega) ls _ _ (by rw [chanA, if_neg (show ¬ bt (RS o) kn = 1 from c_155)]; exact lv_sub hl [3, 4, 5, 6, 7, 8, 9, 1, 0] rfl) hP hS
                              · exact absurd rfl c_169
                            · refine lv_iconst (v := 1) hx hb dX7_chance_158 (by decide) ?_
                              refine lv_goto (tgt := 163) hx hb dX7_chance_159 (by decide) ?_
                              refine lv_istore (lv' := [(11, .int 1), (0, .ref mo), (1, .int kn), (2, .int st), (3, .int gd), (4, .int a), (5, .int b), (6, .int what), (7, .long (chanA RS kn a b mm o)), (9, .int (nI o)), (10, .int (nI (bitsN (nI o) mm)))]) hx hb dX7_chance_163 hl (by decide) rfl (fun ls hl => ?_)
                              refine lv_lload hx hb dX7_chance_165 (lv_at hl 8 rfl) ?_
                              refine lv_iload hx hb dX7_chance_167 (lv_at hl 0 rfl) ?_
                              refine lv_if_eq (tgt := 200) hx hb dX7_chance_169 (by decide) (fun c_169 => ?_) (fun c_169 => ?_)
                              · exact absurd c_169 (by decide)
                              · refine lv_iload hx hb dX7_chance_172 (lv_at hl 5 rfl) ?_
                                refine lv_i2l (v := a.toInt64) hx hb dX7_chance_174 rfl ?_
                                refine lv_iload hx hb dX7_chance_175 (lv_at hl 10 rfl) ?_
                                refine goRL hP hS (va_runS (As := [.long a.toInt64, .int (nI (bitsN (nI o) mm))]) (rest := [.long (chanA RS kn a b mm o)]) ⟨hx, hb, hml, hown, hts⟩ (kX7_power l D cI cJ a.toInt64 (bitsN (nI o) mm) (by omega)) (va_cwS 2 hts gX7_chance_X7_power rfl rfl rfl kdX7_power.2 ⟨Nat.le_of_ble_eq_true rfl, Nat.le_of_ble_eq_true rfl⟩) (preR hK hN hP [] rfl) rfl rfl hl.1 rfl (lv_room (Nat.le_of_ble_eq_true rfl)) dX7_chance_177 ⟨Nat.zero_le _, Nat.zero_le _⟩) (fun H locs hP hS => ?_)
                                refine lv_iload hx hb dX7_chance_180 (lv_at hl 6 rfl) ?_
                                refine lv_iload hx hb dX7_chance_182 (lv_at hl 5 rfl) ?_
                                refine lv_isub hx hb dX7_chance_184 ?_
                                refine lv_i2l (v := (b - a).toInt64) hx hb dX7_chance_185 rfl ?_
                                refine lv_aload_n hx hb dX7_chance_186 rfl (lv_at hl 1 rfl) ?_
                                refine va_get (D := D) (ci := 7) (v := .int (nI mm)) (C := RX7) (T := TX7) (N := 34) hx hb hts hi_7 hown hK hP 0 rfl rfl 1 (by decide) hf_65 (fun _ h9 => h9) rfl dX7_chance_187 ?_
                                refine lv_iload hx hb dX7_chance_190 (lv_at hl 10 rfl) ?_
                                refine lv_isub hx hb dX7_chance_192 ?_
                                refine r_top (x' := nI (mm - (bitsN (nI o) mm))) (pk_sub (a := mm) (b := bitsN (nI o) mm) (by omega)) ?_
                                refine goRL hP hS (va_runS (As := [.long ((b - a).toInt64), .int (nI (mm - (bitsN (nI o) mm)))]) (rest := [.long (powL a.toInt64 (bitsN (nI o) mm)), .long (chanA RS kn a b mm o)]) ⟨hx, hb, hml, hown, hts⟩ (kX7_power l D cI cJ ((b - a).toInt64) (mm - (bitsN (nI o) mm)) (by omega)) (va_cwS 2 hts gX7_chance_X7_power rfl rfl rfl kdX7_power.2 ⟨Nat.le_of_ble_eq_true rfl, Nat.le_of_ble_eq_true rfl⟩) (preR hK hN hP [] rfl) rfl rfl hl.1 rfl (lv_room (Nat.le_of_ble_eq_true rfl)) dX7_chance_193 ⟨Nat.zero_le _, Nat.zero_le _⟩) (fun H locs hP hS => ?_)
                                refine lv_lmul hx hb dX7_chance_196 ?_
                                refine lv_goto (tgt := 201) hx hb dX7_chance_197 (by decide) ?_
                                refine lv_ladd hx hb dX7_chance_201 ?_
                                refine lv_lstore (lv' := [(7, .long ((chanA RS kn a b mm o) + ((powL a.toInt64 (bitsN (nI o) mm)) * (powL ((b - a).toInt64) (mm - (bitsN (nI o) mm)))))), (11, .int 1), (0, .ref mo), (1, .int kn), (2, .int st), (3, .int gd), (4, .int a), (5, .int b), (6, .int what), (9, .int (nI o)), (10, .int (nI (bitsN (nI o) mm)))]) hx hb dX7_chance_202 hl (by decide) rfl (fun ls hl => ?_)
                                refine r_iinc (lv' := [(9, .int (nI (o + 1))), (7, .long ((chanA RS kn a b mm o) + ((powL a.toInt64 (bitsN (nI o) mm)) * (powL ((b - a).toInt64) (mm - (bitsN (nI o) mm)))))), (11, .int 1), (0, .ref mo), (1, .int kn), (2, .int st), (3, .int gd), (4, .int a), (5, .int b), (6, .int what), (10, .int (nI (bitsN (nI o) mm)))]) hx hb 9 o dX7_chance_204 hl rfl (by decide) rfl (fun ls hl => ?_)
                                refine lv_goto (tgt := 94) hx hb dX7_chance_207 (by decide) ?_
                                exact ih_lp (o + 1) (by omega) (by omega) ls _ _ (by rw [chanA, if_pos (show bt (RS o) kn = 1 from c_155)]; exact lv_sub hl [3, 4, 5, 6, 7, 8, 9, 1, 0] rfl) hP hS
                          · refine lv_iload hx hb dX7_chance_120 (lv_at hl 9 rfl) ?_
                            refine lv_iload hx hb dX7_chance_122 (lv_at hl 8 rfl) ?_
                            refine lv_iload hx hb dX7_chance_124 (lv_at hl 10 rfl) ?_
                            refine lv_ishr hx hb dX7_chance_126 ?_
                            refine lv_iconst (v := 1) hx hb dX7_chance_127 (by decide) ?_
                            refine lv_iand hx hb dX7_chance_128 ?_
                            refine lv_iadd hx hb dX7_chance_129 ?_
                            refine lv_istore (lv' := [(10, .int ((nI (bitsN (nI o) li)) + (((nI o) >>> ((nI li) &&& 31)) &&& 1))), (0, .ref mo), (1, .int kn), (2, .int st), (3, .int gd), (4, .int a), (5, .int b), (6, .int what), (7, .long (chanA RS kn a b mm o)), (9, .int (nI o)), (11, .int (nI li))]) hx hb dX7_chance_130 hl (by decide) rfl (fun ls hl => ?_)
                            refine r_iinc (lv' := [(11, .int (nI (li + 1))), (10, .int ((nI (bitsN (nI o) li)) + (((nI o) >>> ((nI li) &&& 31)) &&& 1))), (0, .ref mo), (1, .int kn), (2, .int st), (3, .int gd), (4, .int a), (5, .int b), (6, .int what), (7, .long (chanA RS kn a b mm o)), (9, .int (nI o))]) hx hb 10 li dX7_chance_132 hl rfl (by decide) rfl (fun ls hl => ?_)
                            refine lv_goto (tgt := 111) hx hb dX7_chance_135 (by decide) ?_
                            exact ih_inn (li + 1) (by omega) (by omega) ls _ _ (by rw [← bitsN_S]; exact lv_sub hl [2, 3, 4, 5, 6, 7, 8, 9, 10, 1, 0] rfl) hP hS
                      exact inn _ 0 (by omega) (Nat.lt_succ_self _) ls _ _ (lv_sub hl [2, 3, 4, 5, 6, 7, 8, 9, 10, 1, 0] rfl) hP hS
                exact lp _ 0 (by omega) (Nat.lt_succ_self _) ls _ _ (lv_sub hl [2, 3, 4, 5, 6, 7, 8, 1, 0] rfl) hP hS
              · refine lv_ldc2 (v := (-1003)) hx hb hown hc_223 dX7_chance_84 ?_
                exact endRL hx hb hr hlocks hQ hS dX7_chance_87 (by unfold chanceR; (first | rw [if_pos c_5] | rw [if_neg c_5] | rw [if_neg (Nat.not_lt.mpr c_5)] | rw [if_neg (Nat.not_le.mpr c_5)] | rw [if_neg (i_nlt c_5)] | rw [if_neg (i_nle c_5)] | rw [if_pos (i_lt c_5)] | rw [if_pos (i_le c_5)]); (first | rw [if_pos c_17] | rw [if_neg c_17] | rw [if_neg (Nat.not_lt.mpr c_17)] | rw [if_neg (Nat.not_le.mpr c_17)] | rw [if_neg (i_nlt c_17)] | rw [if_neg (i_nle c_17)] | rw [if_pos (i_lt c_17)] | rw [if_pos (i_le c_17)]); (first | rw [if_pos c_31] | rw [if_neg c_31] | rw [if_neg (Nat.not_lt.mpr c_31)] | rw [if_neg (Nat.not_le.mpr c_31)] | rw [if_neg (i_nlt c_31)] | rw [if_neg (i_nle c_31)] | rw [if_pos (i_lt c_31)] | rw [if_pos (i_le c_31)]); (first | rw [if_pos c_44] | rw [if_neg c_44] | rw [if_neg (Nat.not_lt.mpr c_44)] | rw [if_neg (Nat.not_le.mpr c_44)] | rw [if_neg (i_nlt c_44)] | rw [if_neg (i_nle c_44)] | rw [if_pos (i_lt c_44)] | rw [if_pos (i_le c_44)]); (first | rw [if_pos c_57] | rw [if_neg c_57] | rw [if_neg (Nat.not_lt.mpr c_57)] | rw [if_neg (Nat.not_le.mpr c_57)] | rw [if_neg (i_nlt c_57)] | rw [if_neg (i_nle c_57)] | rw [if_pos (i_lt c_57)] | rw [if_pos (i_le c_57)]); (first | rw [if_pos c_68] | rw [if_neg c_68] | rw [if_neg (Nat.not_lt.mpr c_68)] | rw [if_neg (Nat.not_le.mpr c_68)] | rw [if_neg (i_nlt c_68)] | rw [if_neg (i_nle c_68)] | rw [if_pos (i_lt c_68)] | rw [if_pos (i_le c_68)]); (first | rw [if_pos c_81] | rw [if_neg c_81] | rw [if_neg (Nat.not_lt.mpr c_81)] | rw [if_neg (Nat.not_le.mpr c_81)] | rw [if_neg (i_nlt c_81)] | rw [if_neg (i_nle c_81)] | rw [if_pos (i_lt c_81)] | rw [if_pos (i_le c_81)]))
            · refine lv_ldc2 (v := (-1002)) hx hb hown hc_221 dX7_chance_71 ?_
              exact endRL hx hb hr hlocks hQ hS dX7_chance_74 (by unfold chanceR; (first | rw [if_pos c_5] | rw [if_neg c_5] | rw [if_neg (Nat.not_lt.mpr c_5)] | rw [if_neg (Nat.not_le.mpr c_5)] | rw [if_neg (i_nlt c_5)] | rw [if_neg (i_nle c_5)] | rw [if_pos (i_lt c_5)] | rw [if_pos (i_le c_5)]); (first | rw [if_pos c_17] | rw [if_neg c_17] | rw [if_neg (Nat.not_lt.mpr c_17)] | rw [if_neg (Nat.not_le.mpr c_17)] | rw [if_neg (i_nlt c_17)] | rw [if_neg (i_nle c_17)] | rw [if_pos (i_lt c_17)] | rw [if_pos (i_le c_17)]); (first | rw [if_pos c_31] | rw [if_neg c_31] | rw [if_neg (Nat.not_lt.mpr c_31)] | rw [if_neg (Nat.not_le.mpr c_31)] | rw [if_neg (i_nlt c_31)] | rw [if_neg (i_nle c_31)] | rw [if_pos (i_lt c_31)] | rw [if_pos (i_le c_31)]); (first | rw [if_pos c_44] | rw [if_neg c_44] | rw [if_neg (Nat.not_lt.mpr c_44)] | rw [if_neg (Nat.not_le.mpr c_44)] | rw [if_neg (i_nlt c_44)] | rw [if_neg (i_nle c_44)] | rw [if_pos (i_lt c_44)] | rw [if_pos (i_le c_44)]); (first | rw [if_pos c_57] | rw [if_neg c_57] | rw [if_neg (Nat.not_lt.mpr c_57)] | rw [if_neg (Nat.not_le.mpr c_57)] | rw [if_neg (i_nlt c_57)] | rw [if_neg (i_nle c_57)] | rw [if_pos (i_lt c_57)] | rw [if_pos (i_le c_57)]); (first | rw [if_pos c_68] | rw [if_neg c_68] | rw [if_neg (Nat.not_lt.mpr c_68)] | rw [if_neg (Nat.not_le.mpr c_68)] | rw [if_neg (i_nlt c_68)] | rw [if_neg (i_nle c_68)] | rw [if_pos (i_lt c_68)] | rw [if_pos (i_le c_68)]))
  · refine lv_ldc2 (v := (-1001)) hx hb hown hc_217 dX7_chance_8 ?_
    exact endRL hx hb hr hlocks hQ hS dX7_chance_11 (by unfold chanceR; (first | rw [if_pos c_5] | rw [if_neg c_5] | rw [if_neg (Nat.not_lt.mpr c_5)] | rw [if_neg (Nat.not_le.mpr c_5)] | rw [if_neg (i_nlt c_5)] | rw [if_neg (i_nle c_5)] | rw [if_pos (i_lt c_5)] | rw [if_pos (i_le c_5)]))

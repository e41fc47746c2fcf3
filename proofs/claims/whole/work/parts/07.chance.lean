/-! chances -/
theorem i_cl {i : Int32} (h : ¬ i < 0) : i = nI i.toNatClampNeg := by
  obtain ⟨j, hj, rfl⟩ := nI_of h
  rw [nI_clamp hj]
theorem i_cll {i : Int32} {n : Nat} (h : ¬ i < 0) (h2 : i < nI n) (hn : n < 2 ^ 31) : i.toNatClampNeg < n := by
  obtain ⟨j, hj, rfl⟩ := nI_of h
  rw [nI_clamp hj]
  exact (nI_ltI hj hn).mp h2
def powL (b : Int64) : Nat → Int64
  | 0 => 1
  | k + 1 => powL b k * b
def cpF (src old : Row) (k : Nat) : Row := fun j => if j < k then src j else old j
theorem cpF_0 (src old : Row) : cpF src old 0 = old := by
  funext j
  simp [cpF]
theorem cpF_S (src old : Row) (k : Nat) : cpF src old (k + 1) = upd (cpF src old k) k (src k) := by
  funext j
  simp only [cpF, upd]
  by_cases hj : j = k
  · subst hj
    simp
  · rw [if_neg hj]
    by_cases h2 : j < k
    · rw [if_pos h2, if_pos (by omega)]
    · rw [if_neg h2, if_neg (by omega)]
abbrev byL (en : Row) (re : Int32) (j : Nat) : Int32 := en j &&& (re ^^^ (-1))
def loF (en : Row) (ba re tr : Int32) : Nat → Nat → Int32
  | 0, _ => -1
  | f + 1, j => if ¬ byL en re j = 0 ∧ ¬ byL en re j = en j ∧ byL en re j &&& ba = 0 ∧ bt tr (nI j) = 0 then nI j else loF en ba re tr f (j + 1)
theorem loF_in (en : Row) (ba re tr : Int32) : ∀ (f j : Nat), loF en ba re tr f j = -1 ∨ ∃ k, k < j + f ∧ loF en ba re tr f j = nI k
  | 0, j => Or.inl rfl
  | f + 1, j => by
    rw [loF]
    split
    · exact Or.inr ⟨j, by omega, rfl⟩
    · rcases loF_in en ba re tr f (j + 1) with h | ⟨k, h1, h2⟩
      · exact Or.inl h
      · exact Or.inr ⟨k, by omega, h2⟩
theorem lo_ix {en : Row} {ba re tr v : Int32} {ln : Nat} (hl : ln ≤ 12) (hv : v = loF en ba re tr ln 0) (h : v ≠ -1) : ∃ k : Nat, k < 12 ∧ v = nI k := by
  rcases loF_in en ba re tr ln 0 with q | ⟨k, h1, h2⟩
  · exact absurd (hv.trans q) h
  · exact ⟨k, by omega, hv.trans h2⟩
def wF (en : Row) (ba op sh go : Int32) (ln : Nat) : Nat → Int32 → Int32 → Int64
  | 0, re, _ => if ¬ re &&& go = 0 then powL (op + sh).toInt64 0 else 0
  | f + 1, re, tr => if ¬ re &&& go = 0 then powL (op + sh).toInt64 (f + 1) else
    if loF en ba re tr ln 0 = -1 then 0 else
      op.toInt64 * wF en ba op sh go ln f (re ||| en (loF en ba re tr ln 0).toNatClampNeg) (tr ||| ((1 : Int32) <<< (loF en ba re tr ln 0 &&& 31))) + sh.toInt64 * wF en ba op sh go ln f re (tr ||| ((1 : Int32) <<< (loF en ba re tr ln 0 &&& 31)))
def rmF (f : Nat) : Room := { frames := 2 * f + 5, cells := 0, slots := 0, locals := 60 * f + 150 }
def rmO (f : Nat) : Room := { frames := 2 * f + 6, cells := 0, slots := 0, locals := 60 * f + 180 }
theorem min_ix {mm : Nat} (h : mm ≤ 12) : (if 12 < nI mm then 12 else nI mm) = nI mm := by
  rw [if_neg]
  intro q
  have := (nI_ltI (a := 12) (b := mm) (by omega) (by omega)).mp q
  omega
def rmX1_power : Room := { frames := 0, cells := 0, slots := 0, locals := 0 }
theorem kdX1_power : yX1_power.cls = RX1 ∧ yX1_power.cls ≠ "java/lang/invoke/MethodHandle" ∧ yX1_power.cls ≠ "java/lang/invoke/VarHandle" ∧ (parseMethodDescriptor yX1_power.desc).map (fun d => d.parameters.length) = some 2 := ⟨rfl, by decide +kernel, by decide +kernel, by decide +kernel⟩
set_option maxRecDepth 100000 in
set_option maxHeartbeats 1000000 in
theorem kX1_power (l : Launch) (D : va_G) (cI cJ : ClassId) (b : Int64) (k : Nat) (hk : k < 2 ^ 31) : Met l yX1_power wsX1_power rmX1_power (rPre D cI cJ [.long b, .int (nI k)] []) (qRL (powL b k)) 0 0 nA := by
  refine startR (cc := cX1_power) (maxL := 6) (ret := (some .long)) (by decide) rfl (Nat.le_of_ble_eq_true rfl) ?_
  intro p e s m args below meth c ls Q hQ hx hb hr hlocks hml hown hts hK hN hP hl hin
  have hown : s.vm.findClass RX1 = some m.cls := hown
  have hS : va_S nA s.heap s.heap [] := va_S.rf
  have hl : lv_has ls 6 [(0, .long b), (2, .int (nI k))] := hl
  have hP : va_P D vwCl [] s.heap := hP
  refine lv_lconst (v := 1) hx hb dX1_power_0 (by decide) ?_
  refine lv_lstore_n (lv' := [(3, .long 1), (0, .long b), (2, .int (nI k))]) hx hb dX1_power_1 rfl hl (by decide) rfl (fun ls hl => ?_)
  refine lv_iconst (v := 0) hx hb dX1_power_2 (by decide) ?_
  refine lv_istore (lv' := [(5, .int 0), (3, .long 1), (0, .long b), (2, .int (nI k))]) hx hb dX1_power_3 hl (by decide) rfl (fun ls hl => ?_)
  have lp : ∀ (fu : Nat) (j : Nat), (j ≤ k) → k - j < fu → ∀ (ls : Array Slot) (H : Heap) (locs : List Loc), lv_has ls 6 [(0, .long b), (2, .int (nI k)), (3, .long (powL b j)), (5, .int (nI j))] → va_P D vwCl [] H → va_S nA s.heap H locs → W p l e rmX1_power s m args below meth c H locs 0 0 Q (F0 m 5 ls []) := by
    intro fu
    induction fu with
    | zero => intro j hj hf; exact absurd hf (Nat.not_lt_zero _)
    | succ fu ih_lp =>
      intro j hj hf ls H locs hl hP hS
      refine lv_iload hx hb dX1_power_5 (lv_at hl 3 rfl) ?_
      refine lv_iload_n hx hb dX1_power_7 rfl (lv_at hl 1 rfl) ?_
      refine r_icmp_ge (tgt := 21) hx hb j k dX1_power_8 (by decide) rfl rfl (by omega) (by omega) (fun c_8 => ?_) (fun c_8 => ?_)
      · refine lv_lload_n hx hb dX1_power_21 rfl (lv_at hl 2 rfl) ?_
        exact endRL hx hb hr hlocks hQ hS dX1_power_22 (by rw [show j = k by omega])
      · refine lv_lload_n hx hb dX1_power_11 rfl (lv_at hl 2 rfl) ?_
        refine lv_lload_n hx hb dX1_power_12 rfl (lv_at hl 0 rfl) ?_
        refine lv_lmul hx hb dX1_power_13 ?_
        refine lv_lstore_n (lv' := [(3, .long ((powL b j) * b)), (0, .long b), (2, .int (nI k)), (5, .int (nI j))]) hx hb dX1_power_14 rfl hl (by decide) rfl (fun ls hl => ?_)
        refine r_iinc (lv' := [(5, .int (nI (j + 1))), (3, .long ((powL b j) * b)), (0, .long b), (2, .int (nI k))]) hx hb 3 j dX1_power_15 hl rfl (by decide) rfl (fun ls hl => ?_)
        refine lv_goto (tgt := 5) hx hb dX1_power_18 (by decide) ?_
        exact ih_lp (j + 1) (by omega) (by omega) ls _ _ (lv_sub hl [2, 3, 1, 0] rfl) hP hS
  exact lp _ 0 (by omega) (Nat.lt_succ_self _) ls _ _ (lv_sub hl [2, 3, 1, 0] rfl) hP hS
def rmX1_lay : Room := { frames := 1, cells := 0, slots := 0, locals := 30 }
theorem kdX1_lay : yX1_lay.cls = RX1 ∧ yX1_lay.cls ≠ "java/lang/invoke/MethodHandle" ∧ yX1_lay.cls ≠ "java/lang/invoke/VarHandle" ∧ (parseMethodDescriptor yX1_lay.desc).map (fun d => d.parameters.length) = some 4 := ⟨rfl, by decide +kernel, by decide +kernel, by decide +kernel⟩
set_option maxRecDepth 100000 in
set_option maxHeartbeats 1000000 in
theorem kX1_lay (l : Launch) (D : va_G) (cI cJ : ClassId) (ch ac : Nat) (ln ba op sh : Int32) (ec : Row) (nt aw ap an ae nn mm : Nat) (en : Row) (gu a b : Int32) (hm : mm ≤ 12) : Met l yX1_lay wsX1_lay rmX1_lay (mPre D cI cJ [.ref ch, .ref nt, .int gu, .int a, .int b] [(ch, .inr (1, [.ref ac, .int ln, .int ba, .int op, .int sh])), (ac, .inl (cI, 12, .inl ec)), (nt, .inr (3, [.int (nI nn), .int (nI mm), .ref aw, .ref ap, .ref an, .ref ae])), (ae, .inl (cI, 24, .inl en))]) (mQv D (fun (_ : Unit) => True) (fun (_ : Unit) => [(ch, .inr (1, [.ref ac, .int (nI mm), .int gu, .int a, .int (b - a)])), (ac, .inl (cI, 12, .inl (cpF en ec 12))), (nt, .inr (3, [.int (nI nn), .int (nI mm), .ref aw, .ref ap, .ref an, .ref ae])), (ae, .inl (cI, 24, .inl en))]) [(ch, .inr (1, [.ref ac, .int ln, .int ba, .int op, .int sh])), (ac, .inl (cI, 12, .inl ec)), (nt, .inr (3, [.int (nI nn), .int (nI mm), .ref aw, .ref ap, .ref an, .ref ae])), (ae, .inl (cI, 24, .inl en))]) 0 0 (mA [(ch, .inr (1, [.ref ac, .int ln, .int ba, .int op, .int sh])), (ac, .inl (cI, 12, .inl ec)), (nt, .inr (3, [.int (nI nn), .int (nI mm), .ref aw, .ref ap, .ref an, .ref ae])), (ae, .inl (cI, 24, .inl en))]) := by
  refine startM (cc := cX1_lay) (maxL := 6) (ret := none) (by decide) rfl (Nat.le_of_ble_eq_true rfl) ?_
  intro p e s m args below meth c ls Q A hA hQ hx hb hr hlocks hml hown hts hK hN hP hD hl hin
  have hown : s.vm.findClass RX1 = some m.cls := hown
  have hi_1 : ∀ w ∈ wsX10, w ∈ wsX1_lay := by decide +kernel
  have hi_3 : ∀ w ∈ wsX30, w ∈ wsX1_lay := by decide +kernel
  have hf_9 := hts (.fieldLink RX1 9 "FireNets$Chances" "ends" "[I") (by decide +kernel)
  have hf_15 := hts (.fieldLink RX1 15 "FireNets$Net" "lines" "I") (by decide +kernel)
  have hf_27 := hts (.fieldLink RX1 27 "FireNets$Chances" "lines" "I") (by decide +kernel)
  have hf_32 := hts (.fieldLink RX1 32 "FireNets$Chances" "barred" "I") (by decide +kernel)
  have hf_35 := hts (.fieldLink RX1 35 "FireNets$Chances" "open" "I") (by decide +kernel)
  have hf_38 := hts (.fieldLink RX1 38 "FireNets$Chances" "shut" "I") (by decide +kernel)
  have hm0_min := hts (.methodLink RX1 21 Lib.Math.min.name) (by decide +kernel)
  have hm1_min := hts (.static Lib.Math.min.name) (by decide +kernel)
  have hm2_min := hts (.initialized "java/lang/Math") (by decide +kernel)
  have hm3_min := hts (.code Lib.Math.min.name Lib.Math.min.code 2 (some .int)) (by decide +kernel)
  have hS : va_S A s.heap s.heap [] := va_S.rf
  have hl : lv_has ls 6 [(0, .ref ch), (1, .ref nt), (2, .int gu), (3, .int a), (4, .int b)] := hl
  have hP : va_P D vwCl [(ch, .inr (1, [.ref ac, .int ln, .int ba, .int op, .int sh])), (ac, .inl (cI, 12, .inl ec)), (nt, .inr (3, [.int (nI nn), .int (nI mm), .ref aw, .ref ap, .ref an, .ref ae])), (ae, .inl (cI, 24, .inl en))] s.heap := hP
  refine lv_aload_n hx hb dX1_lay_0 rfl (lv_at hl 0 rfl) ?_
  refine lv_aload_n hx hb dX1_lay_1 rfl (lv_at hl 1 rfl) ?_
  refine va_get (D := D) (ci := 3) (v := .int (nI mm)) (C := RX3) (T := TX3) (N := 6) hx hb hts hi_3 hown hK hP 2 rfl rfl 1 (by decide) hf_15 (fun _ h9 => h9) rfl dX1_lay_2 ?_
  refine lv_bipush (v := 12) hx hb dX1_lay_5 (by decide) ?_
  refine va_mmin hx hb (hml.trans hl.1.symm) hown hm0_min hm1_min hm2_min hm3_min (Nat.le_of_ble_eq_true rfl) (Nat.le_of_ble_eq_true rfl) (Nat.zero_le _) (Nat.zero_le _) dX1_lay_7 ?_
  refine r_top (x' := nI mm) (min_ix hm) ?_
  refine va_put (D := D) (ci := 1) (v := .int (nI mm)) (ty := .int) (C := RX1) (T := TX1) (N := 5) hx hb hts hi_1 tyX1 tyX1_ok nmX1 hown hK hP hD hS 0 rfl rfl 1 (by decide) hf_27 (fun _ h9 => h9) rfl (by decide +kernel) rfl rfl (Nat.le_of_ble_eq_true rfl) dX1_lay_10 (fun H locs hP hD hS => ?_)
  have hP : va_P D vwCl [(ch, .inr (1, [.ref ac, .int (nI mm), .int ba, .int op, .int sh])), (ac, .inl (cI, 12, .inl ec)), (nt, .inr (3, [.int (nI nn), .int (nI mm), .ref aw, .ref ap, .ref an, .ref ae])), (ae, .inl (cI, 24, .inl en))] H := hP
  have hD : va_D A [(ch, .inr (1, [.ref ac, .int (nI mm), .int ba, .int op, .int sh])), (ac, .inl (cI, 12, .inl ec)), (nt, .inr (3, [.int (nI nn), .int (nI mm), .ref aw, .ref ap, .ref an, .ref ae])), (ae, .inl (cI, 24, .inl en))] := hD
  refine lv_iconst (v := 0) hx hb dX1_lay_13 (by decide) ?_
  refine lv_istore (lv' := [(5, .int 0), (0, .ref ch), (1, .ref nt), (2, .int gu), (3, .int a), (4, .int b)]) hx hb dX1_lay_14 hl (by decide) rfl (fun ls hl => ?_)
  have lp : ∀ (fu : Nat) (j : Nat), (j ≤ 12) → 12 - j < fu → ∀ (ls : Array Slot) (H : Heap) (locs : List Loc), lv_has ls 6 [(0, .ref ch), (1, .ref nt), (2, .int gu), (3, .int a), (4, .int b), (5, .int (nI j))] → va_P D vwCl [(ch, .inr (1, [.ref ac, .int (nI mm), .int ba, .int op, .int sh])), (ac, .inl (cI, 12, .inl (cpF en ec j))), (nt, .inr (3, [.int (nI nn), .int (nI mm), .ref aw, .ref ap, .ref an, .ref ae])), (ae, .inl (cI, 24, .inl en))] H → va_D A [(ch, .inr (1, [.ref ac, .int (nI mm), .int ba, .int op, .int sh])), (ac, .inl (cI, 12, .inl (cpF en ec j))), (nt, .inr (3, [.int (nI nn), .int (nI mm), .ref aw, .ref ap, .ref an, .ref ae])), (ae, .inl (cI, 24, .inl en))] → va_S A s.heap H locs → W p l e rmX1_lay s m args below meth c H locs 0 0 Q (F0 m 16 ls []) := by
    intro fu
    induction fu with
    | zero => intro j hj hf; exact absurd hf (Nat.not_lt_zero _)
    | succ fu ih_lp =>
      intro j hj hf ls H locs hl hP hD hS
      refine lv_iload hx hb dX1_lay_16 (lv_at hl 5 rfl) ?_
      refine lv_bipush (v := 12) hx hb dX1_lay_18 (by decide) ?_
      refine r_icmp_ge (tgt := 42) hx hb j 12 dX1_lay_20 (by decide) rfl rfl (by omega) (by omega) (fun c_20 => ?_) (fun c_20 => ?_)
      · refine lv_aload_n hx hb dX1_lay_42 rfl (lv_at hl 0 rfl) ?_
        refine lv_iload_n hx hb dX1_lay_43 rfl (lv_at hl 2 rfl) ?_
        refine va_put (D := D) (ci := 1) (v := .int gu) (ty := .int) (C := RX1) (T := TX1) (N := 5) hx hb hts hi_1 tyX1 tyX1_ok nmX1 hown hK hP hD hS 0 rfl rfl 2 (by decide) hf_32 (fun _ h9 => h9) rfl (by decide +kernel) rfl rfl (Nat.le_of_ble_eq_true rfl) dX1_lay_44 (fun H locs hP hD hS => ?_)
        have hP : va_P D vwCl [(ch, .inr (1, [.ref ac, .int (nI mm), .int gu, .int op, .int sh])), (ac, .inl (cI, 12, .inl (cpF en ec j))), (nt, .inr (3, [.int (nI nn), .int (nI mm), .ref aw, .ref ap, .ref an, .ref ae])), (ae, .inl (cI, 24, .inl en))] H := hP
        have hD : va_D A [(ch, .inr (1, [.ref ac, .int (nI mm), .int gu, .int op, .int sh])), (ac, .inl (cI, 12, .inl (cpF en ec j))), (nt, .inr (3, [.int (nI nn), .int (nI mm), .ref aw, .ref ap, .ref an, .ref ae])), (ae, .inl (cI, 24, .inl en))] := hD
        refine lv_aload_n hx hb dX1_lay_47 rfl (lv_at hl 0 rfl) ?_
        refine lv_iload_n hx hb dX1_lay_48 rfl (lv_at hl 3 rfl) ?_
        refine va_put (D := D) (ci := 1) (v := .int a) (ty := .int) (C := RX1) (T := TX1) (N := 5) hx hb hts hi_1 tyX1 tyX1_ok nmX1 hown hK hP hD hS 0 rfl rfl 3 (by decide) hf_35 (fun _ h9 => h9) rfl (by decide +kernel) rfl rfl (Nat.le_of_ble_eq_true rfl) dX1_lay_49 (fun H locs hP hD hS => ?_)
        have hP : va_P D vwCl [(ch, .inr (1, [.ref ac, .int (nI mm), .int gu, .int a, .int sh])), (ac, .inl (cI, 12, .inl (cpF en ec j))), (nt, .inr (3, [.int (nI nn), .int (nI mm), .ref aw, .ref ap, .ref an, .ref ae])), (ae, .inl (cI, 24, .inl en))] H := hP
        have hD : va_D A [(ch, .inr (1, [.ref ac, .int (nI mm), .int gu, .int a, .int sh])), (ac, .inl (cI, 12, .inl (cpF en ec j))), (nt, .inr (3, [.int (nI nn), .int (nI mm), .ref aw, .ref ap, .ref an, .ref ae])), (ae, .inl (cI, 24, .inl en))] := hD
        refine lv_aload_n hx hb dX1_lay_52 rfl (lv_at hl 0 rfl) ?_
        refine lv_iload hx hb dX1_lay_53 (lv_at hl 4 rfl) ?_
        refine lv_iload_n hx hb dX1_lay_55 rfl (lv_at hl 3 rfl) ?_
        refine lv_isub hx hb dX1_lay_56 ?_
        refine va_put (D := D) (ci := 1) (v := .int (b - a)) (ty := .int) (C := RX1) (T := TX1) (N := 5) hx hb hts hi_1 tyX1 tyX1_ok nmX1 hown hK hP hD hS 0 rfl rfl 4 (by decide) hf_38 (fun _ h9 => h9) rfl (by decide +kernel) rfl rfl (Nat.le_of_ble_eq_true rfl) dX1_lay_57 (fun H locs hP hD hS => ?_)
        have hP : va_P D vwCl [(ch, .inr (1, [.ref ac, .int (nI mm), .int gu, .int a, .int (b - a)])), (ac, .inl (cI, 12, .inl (cpF en ec j))), (nt, .inr (3, [.int (nI nn), .int (nI mm), .ref aw, .ref ap, .ref an, .ref ae])), (ae, .inl (cI, 24, .inl en))] H := hP
        have hD : va_D A [(ch, .inr (1, [.ref ac, .int (nI mm), .int gu, .int a, .int (b - a)])), (ac, .inl (cI, 12, .inl (cpF en ec j))), (nt, .inr (3, [.int (nI nn), .int (nI mm), .ref aw, .ref ap, .ref an, .ref ae])), (ae, .inl (cI, 24, .inl en))] := hD
        exact endMV () hx hb hr hlocks hA hQ hS hP dX1_lay_60 (by rw [show j = 12 by omega]) trivial
      · refine lv_aload_n hx hb dX1_lay_23 rfl (lv_at hl 0 rfl) ?_
        refine va_get (D := D) (ci := 1) (v := .ref ac) (C := RX1) (T := TX1) (N := 5) hx hb hts hi_1 hown hK hP 0 rfl rfl 0 (by decide) hf_9 (fun _ h9 => h9) rfl dX1_lay_24 ?_
        refine lv_iload hx hb dX1_lay_27 (lv_at hl 5 rfl) ?_
        refine lv_aload_n hx hb dX1_lay_29 rfl (lv_at hl 1 rfl) ?_
        refine lv_iload hx hb dX1_lay_30 (lv_at hl 5 rfl) ?_
        refine goRI hP hS (va_runV (As := [.int (nI j)]) (rest := [.int (nI j), .ref ac]) ⟨hx, hb, hml, hown, hts⟩ (kX3_endsOf l D cI cJ nt aw ap an ae nn mm en j (by omega)) (cwV 1 hts gX1_lay_X3_endsOf rfl rfl rfl kdX3_endsOf ⟨Nat.le_of_ble_eq_true rfl, Nat.le_of_ble_eq_true rfl⟩) (preRV hK hN hP 2 (ci := 3) rfl rfl rfl [2, 3] rfl) rfl rfl hl.1 rfl (lv_room (Nat.le_of_ble_eq_true rfl)) dX1_lay_32 ⟨Nat.zero_le _, Nat.zero_le _⟩) (fun H locs hP hS => ?_)
        refine r_iast hx hb hK hP hD hS 1 rfl j rfl (by omega) (by omega) dX1_lay_35 (fun H locs hP hD hS => ?_)
        have hP : va_P D vwCl [(ch, .inr (1, [.ref ac, .int (nI mm), .int ba, .int op, .int sh])), (ac, .inl (cI, 12, .inl (upd (cpF en ec j) j (en j)))), (nt, .inr (3, [.int (nI nn), .int (nI mm), .ref aw, .ref ap, .ref an, .ref ae])), (ae, .inl (cI, 24, .inl en))] H := hP
        have hD : va_D A [(ch, .inr (1, [.ref ac, .int (nI mm), .int ba, .int op, .int sh])), (ac, .inl (cI, 12, .inl (upd (cpF en ec j) j (en j)))), (nt, .inr (3, [.int (nI nn), .int (nI mm), .ref aw, .ref ap, .ref an, .ref ae])), (ae, .inl (cI, 24, .inl en))] := hD
        refine r_iinc (lv' := [(5, .int (nI (j + 1))), (0, .ref ch), (1, .ref nt), (2, .int gu), (3, .int a), (4, .int b)]) hx hb 5 j dX1_lay_36 hl rfl (by decide) rfl (fun ls hl => ?_)
        refine lv_goto (tgt := 16) hx hb dX1_lay_39 (by decide) ?_
        exact ih_lp (j + 1) (by omega) (by omega) ls _ _ (lv_sub hl [1, 2, 3, 4, 5, 0] rfl) (by rw [cpF_S]; exact hP) (by rw [cpF_S]; exact hD) hS
  exact lp _ 0 (by omega) (Nat.lt_succ_self _) ls _ _ (lv_sub hl [1, 2, 3, 4, 5, 0] rfl) (by rw [cpF_0]; exact hP) (by rw [cpF_0]; exact hD) hS
def rmX1_allWays : Room := { frames := 1, cells := 0, slots := 0, locals := 25 }
theorem kdX1_allWays : yX1_allWays.cls = RX1 ∧ yX1_allWays.cls ≠ "java/lang/invoke/MethodHandle" ∧ yX1_allWays.cls ≠ "java/lang/invoke/VarHandle" ∧ (parseMethodDescriptor yX1_allWays.desc).map (fun d => d.parameters.length) = some 0 := ⟨rfl, by decide +kernel, by decide +kernel, by decide +kernel⟩
set_option maxRecDepth 100000 in
set_option maxHeartbeats 1000000 in
theorem kX1_allWays (l : Launch) (D : va_G) (cI cJ : ClassId) (ch ac ln : Nat) (ba op sh : Int32) (hln : ln ≤ 12) : Met l yX1_allWays wsX1_allWays rmX1_allWays (rPre D cI cJ [.ref ch] [(ch, .inr (1, [.ref ac, .int (nI ln), .int ba, .int op, .int sh]))]) (qRL (powL (op + sh).toInt64 ln)) 0 0 nA := by
  refine startR (cc := cX1_allWays) (maxL := 1) (ret := (some .long)) (by decide) rfl (Nat.le_of_ble_eq_true rfl) ?_
  intro p e s m args below meth c ls Q hQ hx hb hr hlocks hml hown hts hK hN hP hl hin
  have hown : s.vm.findClass RX1 = some m.cls := hown
  have hi_1 : ∀ w ∈ wsX10, w ∈ wsX1_allWays := by decide +kernel
  have hf_27 := hts (.fieldLink RX1 27 "FireNets$Chances" "lines" "I") (by decide +kernel)
  have hf_35 := hts (.fieldLink RX1 35 "FireNets$Chances" "open" "I") (by decide +kernel)
  have hf_38 := hts (.fieldLink RX1 38 "FireNets$Chances" "shut" "I") (by decide +kernel)
  have hS : va_S nA s.heap s.heap [] := va_S.rf
  have hl : lv_has ls 1 [(0, .ref ch)] := hl
  have hP : va_P D vwCl [(ch, .inr (1, [.ref ac, .int (nI ln), .int ba, .int op, .int sh]))] s.heap := hP
  refine lv_aload_n hx hb dX1_allWays_0 rfl (lv_at hl 0 rfl) ?_
  refine va_get (D := D) (ci := 1) (v := .int op) (C := RX1) (T := TX1) (N := 5) hx hb hts hi_1 hown hK hP 0 rfl rfl 3 (by decide) hf_35 (fun _ h9 => h9) rfl dX1_allWays_1 ?_
  refine lv_aload_n hx hb dX1_allWays_4 rfl (lv_at hl 0 rfl) ?_
  refine va_get (D := D) (ci := 1) (v := .int sh) (C := RX1) (T := TX1) (N := 5) hx hb hts hi_1 hown hK hP 0 rfl rfl 4 (by decide) hf_38 (fun _ h9 => h9) rfl dX1_allWays_5 ?_
  refine lv_iadd hx hb dX1_allWays_8 ?_
  refine lv_i2l (v := (op + sh).toInt64) hx hb dX1_allWays_9 rfl ?_
  refine lv_aload_n hx hb dX1_allWays_10 rfl (lv_at hl 0 rfl) ?_
  refine va_get (D := D) (ci := 1) (v := .int (nI ln)) (C := RX1) (T := TX1) (N := 5) hx hb hts hi_1 hown hK hP 0 rfl rfl 1 (by decide) hf_27 (fun _ h9 => h9) rfl dX1_allWays_11 ?_
  refine goRL hP hS (va_runS (As := [.long ((op + sh).toInt64), .int (nI ln)]) (rest := []) ⟨hx, hb, hml, hown, hts⟩ (kX1_power l D cI cJ ((op + sh).toInt64) ln (by omega)) (va_cwS 2 hts gX1_allWays_X1_power rfl rfl rfl kdX1_power.2 ⟨Nat.le_of_ble_eq_true rfl, Nat.le_of_ble_eq_true rfl⟩) (preR hK hN hP [] rfl) rfl rfl hl.1 rfl (lv_room (Nat.le_of_ble_eq_true rfl)) dX1_allWays_14 ⟨Nat.zero_le _, Nat.zero_le _⟩) (fun H locs hP hS => ?_)
  exact endRL hx hb hr hlocks hQ hS dX1_allWays_17 rfl
def rmX1_lineOnward : Room := { frames := 1, cells := 0, slots := 0, locals := 21 }
theorem kdX1_lineOnward : yX1_lineOnward.cls = RX1 ∧ yX1_lineOnward.cls ≠ "java/lang/invoke/MethodHandle" ∧ yX1_lineOnward.cls ≠ "java/lang/invoke/VarHandle" ∧ (parseMethodDescriptor yX1_lineOnward.desc).map (fun d => d.parameters.length) = some 2 := ⟨rfl, by decide +kernel, by decide +kernel, by decide +kernel⟩
set_option maxRecDepth 100000 in
set_option maxHeartbeats 1000000 in
theorem kX1_lineOnward (l : Launch) (D : va_G) (cI cJ : ClassId) (ch ac ln : Nat) (ba op sh : Int32) (ec : Row) (re tr : Int32) (v : Int32) (hln : ln ≤ 12) (hv : v = loF ec ba re tr ln 0) : Met l yX1_lineOnward wsX1_lineOnward rmX1_lineOnward (rPre D cI cJ [.ref ch, .int re, .int tr] [(ch, .inr (1, [.ref ac, .int (nI ln), .int ba, .int op, .int sh])), (ac, .inl (cI, 12, .inl ec))]) (qRI v) 0 0 nA := by
  refine startR (cc := cX1_lineOnward) (maxL := 6) (ret := (some .int)) (by decide) rfl (Nat.le_of_ble_eq_true rfl) ?_
  intro p e s m args below meth c ls Q hQ hx hb hr hlocks hml hown hts hK hN hP hl hin
  have hown : s.vm.findClass RX1 = some m.cls := hown
  have hi_1 : ∀ w ∈ wsX10, w ∈ wsX1_lineOnward := by decide +kernel
  have hf_9 := hts (.fieldLink RX1 9 "FireNets$Chances" "ends" "[I") (by decide +kernel)
  have hf_27 := hts (.fieldLink RX1 27 "FireNets$Chances" "lines" "I") (by decide +kernel)
  have hf_32 := hts (.fieldLink RX1 32 "FireNets$Chances" "barred" "I") (by decide +kernel)
  have hini_RX6 := hts (.initialized RX6) (by decide +kernel)
  have hst_X6_holds := hts (.static yX6_holds) (by decide +kernel)
  have hS : va_S nA s.heap s.heap [] := va_S.rf
  have hl : lv_has ls 6 [(0, .ref ch), (1, .int re), (2, .int tr)] := hl
  have hP : va_P D vwCl [(ch, .inr (1, [.ref ac, .int (nI ln), .int ba, .int op, .int sh])), (ac, .inl (cI, 12, .inl ec))] s.heap := hP
  subst hv
  refine lv_iconst (v := 0) hx hb dX1_lineOnward_0 (by decide) ?_
  refine lv_istore_n (lv' := [(3, .int 0), (0, .ref ch), (1, .int re), (2, .int tr)]) hx hb dX1_lineOnward_1 rfl hl (by decide) rfl (fun ls hl => ?_)
  have lp : ∀ (fu : Nat) (j : Nat), (j ≤ ln) → (loF ec ba re tr (ln - j) j = loF ec ba re tr ln 0) → ln - j < fu → ∀ (ls : Array Slot) (H : Heap) (locs : List Loc), lv_has ls 6 [(0, .ref ch), (1, .int re), (2, .int tr), (3, .int (nI j))] → va_P D vwCl [(ch, .inr (1, [.ref ac, .int (nI ln), .int ba, .int op, .int sh])), (ac, .inl (cI, 12, .inl ec))] H → va_S nA s.heap H locs → W p l e rmX1_lineOnward s m args below meth c H locs 0 0 Q (F0 m 2 ls []) := by
    intro fu
    induction fu with
    | zero => intro j hj hq hf; exact absurd hf (Nat.not_lt_zero _)
    | succ fu ih_lp =>
      intro j hj hq hf ls H locs hl hP hS
      refine lv_iload_n hx hb dX1_lineOnward_2 rfl (lv_at hl 3 rfl) ?_
      refine lv_aload_n hx hb dX1_lineOnward_3 rfl (lv_at hl 0 rfl) ?_
      refine va_get (D := D) (ci := 1) (v := .int (nI ln)) (C := RX1) (T := TX1) (N := 5) hx hb hts hi_1 hown hK hP 0 rfl rfl 1 (by decide) hf_27 (fun _ h9 => h9) rfl dX1_lineOnward_4 ?_
      refine r_icmp_ge (tgt := 82) hx hb j ln dX1_lineOnward_7 (by decide) rfl rfl (by omega) (by omega) (fun c_7 => ?_) (fun c_7 => ?_)
      · refine lv_iconst (v := (-1)) hx hb dX1_lineOnward_82 (by decide) ?_
        exact endRI hx hb hr hlocks hQ hS dX1_lineOnward_83 (by rw [← hq, show ln - j = 0 by omega, loF])
      · refine lv_iload_n hx hb dX1_lineOnward_10 rfl (lv_at hl 3 rfl) ?_
        refine lv_bipush (v := 12) hx hb dX1_lineOnward_11 (by decide) ?_
        refine r_icmp_ge (tgt := 82) hx hb j 12 dX1_lineOnward_13 (by decide) rfl rfl (by omega) (by omega) (fun c_13 => ?_) (fun c_13 => ?_)
        · exact absurd c_13 (by omega)
        · refine lv_aload_n hx hb dX1_lineOnward_16 rfl (lv_at hl 0 rfl) ?_
          refine va_get (D := D) (ci := 1) (v := .ref ac) (C := RX1) (T := TX1) (N := 5) hx hb hts hi_1 hown hK hP 0 rfl rfl 0 (by decide) hf_9 (fun _ h9 => h9) rfl dX1_lineOnward_17 ?_
          refine lv_iload_n hx hb dX1_lineOnward_20 rfl (lv_at hl 3 rfl) ?_
          refine r_iald hx hb hK hP 1 rfl j rfl (by omega) (by omega) dX1_lineOnward_21 ?_
          refine lv_iload_n hx hb dX1_lineOnward_22 rfl (lv_at hl 1 rfl) ?_
          refine lv_iconst (v := (-1)) hx hb dX1_lineOnward_23 (by decide) ?_
          refine lv_ixor hx hb dX1_lineOnward_24 ?_
          refine lv_iand hx hb dX1_lineOnward_25 ?_
          refine lv_istore (lv' := [(4, .int ((ec j) &&& (re ^^^ (-1)))), (0, .ref ch), (1, .int re), (2, .int tr), (3, .int (nI j))]) hx hb dX1_lineOnward_26 hl (by decide) rfl (fun ls hl => ?_)
          refine lv_iload hx hb dX1_lineOnward_28 (lv_at hl 0 rfl) ?_
          refine lv_if_eq (tgt := 48) hx hb dX1_lineOnward_30 (by decide) (fun c_30 => ?_) (fun c_30 => ?_)
          · refine lv_iconst (v := 0) hx hb dX1_lineOnward_48 (by decide) ?_
            refine lv_istore (lv' := [(5, .int 0), (4, .int ((ec j) &&& (re ^^^ (-1)))), (0, .ref ch), (1, .int re), (2, .int tr), (3, .int (nI j))]) hx hb dX1_lineOnward_49 hl (by decide) rfl (fun ls hl => ?_)
            refine lv_iload hx hb dX1_lineOnward_51 (lv_at hl 0 rfl) ?_
            refine lv_if_eq (tgt := 76) hx hb dX1_lineOnward_53 (by decide) (fun c_53 => ?_) (fun c_53 => ?_)
            · refine r_iinc (lv' := [(3, .int (nI (j + 1))), (5, .int 0), (4, .int ((ec j) &&& (re ^^^ (-1)))), (0, .ref ch), (1, .int re), (2, .int tr)]) hx hb 5 j dX1_lineOnward_76 hl rfl (by decide) rfl (fun ls hl => ?_)
              refine lv_goto (tgt := 2) hx hb dX1_lineOnward_79 (by decide) ?_
              exact ih_lp (j + 1) (by omega) (by rw [← hq, show ln - j = (ln - (j + 1)) + 1 by omega, loF, if_neg (fun h => h.1 c_30)]) (by omega) ls _ _ (lv_sub hl [3, 4, 5, 0] rfl) hP hS
            · exact absurd rfl c_53
          · refine lv_iload hx hb dX1_lineOnward_33 (lv_at hl 0 rfl) ?_
            refine lv_aload_n hx hb dX1_lineOnward_35 rfl (lv_at hl 1 rfl) ?_
            refine va_get (D := D) (ci := 1) (v := .ref ac) (C := RX1) (T := TX1) (N := 5) hx hb hts hi_1 hown hK hP 0 rfl rfl 0 (by decide) hf_9 (fun _ h9 => h9) rfl dX1_lineOnward_36 ?_
            refine lv_iload_n hx hb dX1_lineOnward_39 rfl (lv_at hl 4 rfl) ?_
            refine r_iald hx hb hK hP 1 rfl j rfl (by omega) (by omega) dX1_lineOnward_40 ?_
            refine lv_icmp_eq (tgt := 48) hx hb dX1_lineOnward_41 (by decide) (fun c_41 => ?_) (fun c_41 => ?_)
            · refine lv_iconst (v := 0) hx hb dX1_lineOnward_48 (by decide) ?_
              refine lv_istore (lv' := [(5, .int 0), (4, .int ((ec j) &&& (re ^^^ (-1)))), (0, .ref ch), (1, .int re), (2, .int tr), (3, .int (nI j))]) hx hb dX1_lineOnward_49 hl (by decide) rfl (fun ls hl => ?_)
              refine lv_iload hx hb dX1_lineOnward_51 (lv_at hl 0 rfl) ?_
              refine lv_if_eq (tgt := 76) hx hb dX1_lineOnward_53 (by decide) (fun c_53 => ?_) (fun c_53 => ?_)
              · refine r_iinc (lv' := [(3, .int (nI (j + 1))), (5, .int 0), (4, .int ((ec j) &&& (re ^^^ (-1)))), (0, .ref ch), (1, .int re), (2, .int tr)]) hx hb 5 j dX1_lineOnward_76 hl rfl (by decide) rfl (fun ls hl => ?_)
                refine lv_goto (tgt := 2) hx hb dX1_lineOnward_79 (by decide) ?_
                exact ih_lp (j + 1) (by omega) (by rw [← hq, show ln - j = (ln - (j + 1)) + 1 by omega, loF, if_neg (fun h => h.2.1 c_41)]) (by omega) ls _ _ (lv_sub hl [3, 4, 5, 0] rfl) hP hS
              · exact absurd rfl c_53
            · refine lv_iconst (v := 1) hx hb dX1_lineOnward_44 (by decide) ?_
              refine lv_goto (tgt := 49) hx hb dX1_lineOnward_45 (by decide) ?_
              refine lv_istore (lv' := [(5, .int 1), (4, .int ((ec j) &&& (re ^^^ (-1)))), (0, .ref ch), (1, .int re), (2, .int tr), (3, .int (nI j))]) hx hb dX1_lineOnward_49 hl (by decide) rfl (fun ls hl => ?_)
              refine lv_iload hx hb dX1_lineOnward_51 (lv_at hl 0 rfl) ?_
              refine lv_if_eq (tgt := 76) hx hb dX1_lineOnward_53 (by decide) (fun c_53 => ?_) (fun c_53 => ?_)
              · exact absurd c_53 (by decide)
              · refine lv_iload hx hb dX1_lineOnward_56 (lv_at hl 1 rfl) ?_
                refine lv_aload_n hx hb dX1_lineOnward_58 rfl (lv_at hl 2 rfl) ?_
                refine va_get (D := D) (ci := 1) (v := .int ba) (C := RX1) (T := TX1) (N := 5) hx hb hts hi_1 hown hK hP 0 rfl rfl 2 (by decide) hf_32 (fun _ h9 => h9) rfl dX1_lineOnward_59 ?_
                refine lv_iand hx hb dX1_lineOnward_62 ?_
                refine lv_if_ne (tgt := 76) hx hb dX1_lineOnward_63 (by decide) (fun c_63 => ?_) (fun c_63 => ?_)
                · refine r_iinc (lv' := [(3, .int (nI (j + 1))), (5, .int 1), (4, .int ((ec j) &&& (re ^^^ (-1)))), (0, .ref ch), (1, .int re), (2, .int tr)]) hx hb 5 j dX1_lineOnward_76 hl rfl (by decide) rfl (fun ls hl => ?_)
                  refine lv_goto (tgt := 2) hx hb dX1_lineOnward_79 (by decide) ?_
                  exact ih_lp (j + 1) (by omega) (by rw [← hq, show ln - j = (ln - (j + 1)) + 1 by omega, loF, if_neg (fun h => c_63 h.2.2.1)]) (by omega) ls _ _ (lv_sub hl [3, 4, 5, 0] rfl) hP hS
                · refine lv_iload_n hx hb dX1_lineOnward_66 rfl (lv_at hl 4 rfl) ?_
                  refine lv_iload_n hx hb dX1_lineOnward_67 rfl (lv_at hl 5 rfl) ?_
                  refine goRI hP hS (va_runSN (As := [.int tr, .int (nI j)]) (rest := []) ⟨hx, hb, hml, hown, hts⟩ (kX6_holds l D cI cJ tr (nI j)) ⟨va_cnB (host := "FireNets") 2 hts gX1_lineOnward_X6_holds_n56 rfl rfl rfl (hN _ nwm_RX1_56) hini_RX6 kdX6_holds.2 ⟨Nat.le_of_ble_eq_true rfl, Nat.le_of_ble_eq_true rfl⟩, hst_X6_holds, trivial⟩ (preR hK hN hP [] rfl) rfl rfl hl.1 rfl (lv_room (Nat.le_of_ble_eq_true rfl)) dX1_lineOnward_68 ⟨Nat.zero_le _, Nat.zero_le _⟩) (fun H locs hP hS => ?_)
                  refine r_zne (tgt := 76) hx hb dX1_lineOnward_71 (by decide) (fun c_71 => ?_) (fun c_71 => ?_)
                  · refine r_iinc (lv' := [(3, .int (nI (j + 1))), (5, .int 1), (4, .int ((ec j) &&& (re ^^^ (-1)))), (0, .ref ch), (1, .int re), (2, .int tr)]) hx hb 5 j dX1_lineOnward_76 hl rfl (by decide) rfl (fun ls hl => ?_)
                    refine lv_goto (tgt := 2) hx hb dX1_lineOnward_79 (by decide) ?_
                    exact ih_lp (j + 1) (by omega) (by rw [← hq, show ln - j = (ln - (j + 1)) + 1 by omega, loF, if_neg (fun h => c_71 h.2.2.2)]) (by omega) ls _ _ (lv_sub hl [3, 4, 5, 0] rfl) hP hS
                  · refine lv_iload_n hx hb dX1_lineOnward_74 rfl (lv_at hl 5 rfl) ?_
                    exact endRI hx hb hr hlocks hQ hS dX1_lineOnward_75 (by rw [← hq, show ln - j = (ln - (j + 1)) + 1 by omega, loF, if_pos ⟨c_30, c_41, c_63, Decidable.byContradiction c_71⟩])
  exact lp _ 0 (by omega) rfl (Nat.lt_succ_self _) ls _ _ (lv_sub hl [1, 2, 3, 0] rfl) hP hS
theorem kdX1_waysFrom : yX1_waysFrom.cls = RX1 ∧ yX1_waysFrom.cls ≠ "java/lang/invoke/MethodHandle" ∧ yX1_waysFrom.cls ≠ "java/lang/invoke/VarHandle" ∧ (parseMethodDescriptor yX1_waysFrom.desc).map (fun d => d.parameters.length) = some 4 := ⟨rfl, by decide +kernel, by decide +kernel, by decide +kernel⟩
theorem kdX1_waysOver : yX1_waysOver.cls = RX1 ∧ yX1_waysOver.cls ≠ "java/lang/invoke/MethodHandle" ∧ yX1_waysOver.cls ≠ "java/lang/invoke/VarHandle" ∧ (parseMethodDescriptor yX1_waysOver.desc).map (fun d => d.parameters.length) = some 5 := ⟨rfl, by decide +kernel, by decide +kernel, by decide +kernel⟩
set_option maxRecDepth 100000 in
set_option maxHeartbeats 1000000 in
theorem kX1_waysFrom0 (l : Launch) (D : va_G) (cI cJ : ClassId) (ch ac ln : Nat) (ba op sh : Int32) (ec : Row) (go re tr : Int32) (y : Int64) (hy : y = wF ec ba op sh go ln 0 re tr) : Met l yX1_waysFrom wsX1_waysFrom (rmF 0) (rPre D cI cJ [.ref ch, .int go, .int re, .int tr, .int (nI 0)] [(ch, .inr (1, [.ref ac, .int (nI ln), .int ba, .int op, .int sh])), (ac, .inl (cI, 12, .inl ec))]) (qRL y) 0 0 nA := by
  refine startR (cc := cX1_waysFrom) (maxL := 6) (ret := (some .long)) (by decide) rfl (Nat.le_of_ble_eq_true rfl) ?_
  intro p e s m args below meth c ls Q hQ hx hb hr hlocks hml hown hts hK hN hP hl hin
  have hown : s.vm.findClass RX1 = some m.cls := hown
  have hi_1 : ∀ w ∈ wsX10, w ∈ wsX1_waysFrom := by decide +kernel
  have hf_35 := hts (.fieldLink RX1 35 "FireNets$Chances" "open" "I") (by decide +kernel)
  have hf_38 := hts (.fieldLink RX1 38 "FireNets$Chances" "shut" "I") (by decide +kernel)
  have hS : va_S nA s.heap s.heap [] := va_S.rf
  have hl : lv_has ls 6 [(0, .ref ch), (1, .int go), (2, .int re), (3, .int tr), (4, .int (nI 0))] := hl
  have hP : va_P D vwCl [(ch, .inr (1, [.ref ac, .int (nI ln), .int ba, .int op, .int sh])), (ac, .inl (cI, 12, .inl ec))] s.heap := hP
  subst hy
  refine lv_iload_n hx hb dX1_waysFrom_0 rfl (lv_at hl 2 rfl) ?_
  refine lv_iload_n hx hb dX1_waysFrom_1 rfl (lv_at hl 1 rfl) ?_
  refine lv_iand hx hb dX1_waysFrom_2 ?_
  refine lv_if_eq (tgt := 22) hx hb dX1_waysFrom_3 (by decide) (fun c_3 => ?_) (fun c_3 => ?_)
  · refine lv_iload hx hb dX1_waysFrom_22 (lv_at hl 4 rfl) ?_
    refine lv_if_gt (tgt := 31) hx hb dX1_waysFrom_24 (by decide) (fun c_24 => ?_) (fun c_24 => ?_)
    · exact absurd c_24 (by decide)
    · refine lv_iconst (v := (-1)) hx hb dX1_waysFrom_27 (by decide) ?_
      refine lv_goto (tgt := 37) hx hb dX1_waysFrom_28 (by decide) ?_
      refine lv_istore (lv' := [(5, .int (-1)), (0, .ref ch), (1, .int go), (2, .int re), (3, .int tr), (4, .int (nI 0))]) hx hb dX1_waysFrom_37 hl (by decide) rfl (fun ls hl => ?_)
      refine lv_iload hx hb dX1_waysFrom_39 (lv_at hl 0 rfl) ?_
      refine lv_iconst (v := (-1)) hx hb dX1_waysFrom_41 (by decide) ?_
      refine lv_icmp_ne (tgt := 49) hx hb dX1_waysFrom_42 (by decide) (fun c_42 => ?_) (fun c_42 => ?_)
      · exact absurd rfl c_42
      · refine lv_lconst (v := 0) hx hb dX1_waysFrom_45 (by decide) ?_
        refine lv_goto (tgt := 60) hx hb dX1_waysFrom_46 (by decide) ?_
        exact endRL hx hb hr hlocks hQ hS dX1_waysFrom_60 (by rw [wF, if_neg (fun h => h c_3)])
  · refine lv_aload_n hx hb dX1_waysFrom_6 rfl (lv_at hl 0 rfl) ?_
    refine va_get (D := D) (ci := 1) (v := .int op) (C := RX1) (T := TX1) (N := 5) hx hb hts hi_1 hown hK hP 0 rfl rfl 3 (by decide) hf_35 (fun _ h9 => h9) rfl dX1_waysFrom_7 ?_
    refine lv_aload_n hx hb dX1_waysFrom_10 rfl (lv_at hl 0 rfl) ?_
    refine va_get (D := D) (ci := 1) (v := .int sh) (C := RX1) (T := TX1) (N := 5) hx hb hts hi_1 hown hK hP 0 rfl rfl 4 (by decide) hf_38 (fun _ h9 => h9) rfl dX1_waysFrom_11 ?_
    refine lv_iadd hx hb dX1_waysFrom_14 ?_
    refine lv_i2l (v := (op + sh).toInt64) hx hb dX1_waysFrom_15 rfl ?_
    refine lv_iload hx hb dX1_waysFrom_16 (lv_at hl 4 rfl) ?_
    refine goRL hP hS (va_runS (As := [.long ((op + sh).toInt64), .int (nI 0)]) (rest := []) ⟨hx, hb, hml, hown, hts⟩ (kX1_power l D cI cJ ((op + sh).toInt64) 0 (by omega)) (va_cwS 2 hts gX1_waysFrom_X1_power rfl rfl rfl kdX1_power.2 ⟨by show _ + 1 ≤ 2 * 0 + 5; first | (simp only [rmO]; omega) | exact Nat.le_trans (Nat.le_of_ble_eq_true rfl) (Nat.le_add_left 5 (2 * 0)), by show _ ≤ 60 * 0 + 150; first | (simp only [rmO]; omega) | exact Nat.le_trans (Nat.le_of_ble_eq_true rfl) (Nat.le_add_left 150 (60 * 0))⟩) (preR hK hN hP [] rfl) rfl rfl hl.1 rfl (lv_room (Nat.le_of_ble_eq_true rfl)) dX1_waysFrom_18 ⟨Nat.zero_le _, Nat.zero_le _⟩) (fun H locs hP hS => ?_)
    exact endRL hx hb hr hlocks hQ hS dX1_waysFrom_21 (by rw [wF, if_pos c_3])
set_option maxRecDepth 100000 in
set_option maxHeartbeats 1000000 in
theorem kX1_waysOver (l : Launch) (D : va_G) (cI cJ : ClassId) (ch ac ln : Nat) (ba op sh : Int32) (ec : Row) (go : Int32) (f k : Nat) (re tr : Int32) (y : Int64) (hk : k < 12) (hf12 : f < 12) (hrec : ∀ (re tr : Int32), ∀ (y : Int64), y = wF ec ba op sh go ln f re tr → Met l yX1_waysFrom wsX1_waysFrom (rmF f) (rPre D cI cJ [.ref ch, .int go, .int re, .int tr, .int (nI f)] [(ch, .inr (1, [.ref ac, .int (nI ln), .int ba, .int op, .int sh])), (ac, .inl (cI, 12, .inl ec))]) (qRL y) 0 0 nA) (hy : y = op.toInt64 * wF ec ba op sh go ln f (re ||| ec k) (tr ||| ((1 : Int32) <<< (nI k &&& 31))) + sh.toInt64 * wF ec ba op sh go ln f re (tr ||| ((1 : Int32) <<< (nI k &&& 31)))) : Met l yX1_waysOver wsX1_waysOver (rmO f) (rPre D cI cJ [.ref ch, .int (nI k), .int go, .int re, .int tr, .int (nI (f + 1))] [(ch, .inr (1, [.ref ac, .int (nI ln), .int ba, .int op, .int sh])), (ac, .inl (cI, 12, .inl ec))]) (qRL y) 0 0 nA := by
  refine startR (cc := cX1_waysOver) (maxL := 9) (ret := (some .long)) (by decide) rfl (Nat.le_of_ble_eq_true rfl) ?_
  intro p e s m args below meth c ls Q hQ hx hb hr hlocks hml hown hts hK hN hP hl hin
  have hown : s.vm.findClass RX1 = some m.cls := hown
  have hi_1 : ∀ w ∈ wsX10, w ∈ wsX1_waysOver := by decide +kernel
  have hf_9 := hts (.fieldLink RX1 9 "FireNets$Chances" "ends" "[I") (by decide +kernel)
  have hf_35 := hts (.fieldLink RX1 35 "FireNets$Chances" "open" "I") (by decide +kernel)
  have hf_38 := hts (.fieldLink RX1 38 "FireNets$Chances" "shut" "I") (by decide +kernel)
  have hS : va_S nA s.heap s.heap [] := va_S.rf
  have hl : lv_has ls 9 [(0, .ref ch), (1, .int (nI k)), (2, .int go), (3, .int re), (4, .int tr), (5, .int (nI (f + 1)))] := hl
  have hP : va_P D vwCl [(ch, .inr (1, [.ref ac, .int (nI ln), .int ba, .int op, .int sh])), (ac, .inl (cI, 12, .inl ec))] s.heap := hP
  subst hy
  refine lv_iload_n hx hb dX1_waysOver_0 rfl (lv_at hl 1 rfl) ?_
  refine lv_if_lt (tgt := 10) hx hb dX1_waysOver_1 (by decide) (fun c_1 => ?_) (fun c_1 => ?_)
  · exact absurd c_1 (nI_pos (by omega))
  · refine lv_iload_n hx hb dX1_waysOver_4 rfl (lv_at hl 1 rfl) ?_
    refine lv_bipush (v := 12) hx hb dX1_waysOver_5 (by decide) ?_
    refine r_icmp_lt (tgt := 12) hx hb k 12 dX1_waysOver_7 (by decide) rfl rfl (by omega) (by omega) (fun c_7 => ?_) (fun c_7 => ?_)
    · refine lv_iload hx hb dX1_waysOver_12 (lv_at hl 4 rfl) ?_
      refine lv_iconst (v := 1) hx hb dX1_waysOver_14 (by decide) ?_
      refine lv_iload_n hx hb dX1_waysOver_15 rfl (lv_at hl 1 rfl) ?_
      refine lv_ishl hx hb dX1_waysOver_16 ?_
      refine lv_ior hx hb dX1_waysOver_17 ?_
      refine lv_istore (lv' := [(6, .int (tr ||| (1 <<< ((nI k) &&& 31)))), (0, .ref ch), (1, .int (nI k)), (2, .int go), (3, .int re), (4, .int tr), (5, .int (nI (f + 1)))]) hx hb dX1_waysOver_18 hl (by decide) rfl (fun ls hl => ?_)
      refine lv_aload_n hx hb dX1_waysOver_20 rfl (lv_at hl 1 rfl) ?_
      refine lv_iload_n hx hb dX1_waysOver_21 rfl (lv_at hl 3 rfl) ?_
      refine lv_iload_n hx hb dX1_waysOver_22 rfl (lv_at hl 4 rfl) ?_
      refine lv_aload_n hx hb dX1_waysOver_23 rfl (lv_at hl 1 rfl) ?_
      refine va_get (D := D) (ci := 1) (v := .ref ac) (C := RX1) (T := TX1) (N := 5) hx hb hts hi_1 hown hK hP 0 rfl rfl 0 (by decide) hf_9 (fun _ h9 => h9) rfl dX1_waysOver_24 ?_
      refine lv_iload_n hx hb dX1_waysOver_27 rfl (lv_at hl 2 rfl) ?_
      refine r_iald hx hb hK hP 1 rfl k rfl (by omega) (by omega) dX1_waysOver_28 ?_
      refine lv_ior hx hb dX1_waysOver_29 ?_
      refine lv_iload hx hb dX1_waysOver_30 (lv_at hl 0 rfl) ?_
      refine lv_iload hx hb dX1_waysOver_32 (lv_at hl 6 rfl) ?_
      refine lv_iconst (v := 1) hx hb dX1_waysOver_34 (by decide) ?_
      refine lv_isub hx hb dX1_waysOver_35 ?_
      refine r_top (x' := nI f) (pk_sub (a := f + 1) (b := 1) (by omega)) ?_
      obtain ⟨y_36, hy_36⟩ : ∃ z : Int64, z = wF ec ba op sh go ln f (re ||| (ec k)) (tr ||| (1 <<< ((nI k) &&& 31))) := ⟨_, rfl⟩
      refine goRL hP hS (va_runV (As := [.int go, .int (re ||| (ec k)), .int (tr ||| (1 <<< ((nI k) &&& 31))), .int (nI f)]) (rest := []) ⟨hx, hb, hml, hown, hts⟩ (hrec (re ||| (ec k)) (tr ||| (1 <<< ((nI k) &&& 31))) y_36 hy_36) (cwV 4 hts gX1_waysOver_X1_waysFrom rfl rfl rfl kdX1_waysFrom ⟨by show _ + 1 ≤ 2 * f + 6; first | (simp only [rmF]; omega) | exact Nat.le_trans (Nat.le_of_ble_eq_true rfl) (Nat.le_add_left 6 (2 * f)), by show _ ≤ 60 * f + 180; first | (simp only [rmF]; omega) | exact Nat.le_trans (Nat.le_of_ble_eq_true rfl) (Nat.le_add_left 180 (60 * f))⟩) (preRV hK hN hP 0 (ci := 1) rfl rfl rfl [0, 1] rfl) rfl rfl hl.1 rfl (lv_room (Nat.le_of_ble_eq_true rfl)) dX1_waysOver_36 ⟨Nat.zero_le _, Nat.zero_le _⟩) (fun H locs hP hS => ?_)
      refine lv_lstore (lv' := [(7, .long y_36), (6, .int (tr ||| (1 <<< ((nI k) &&& 31)))), (0, .ref ch), (1, .int (nI k)), (2, .int go), (3, .int re), (4, .int tr), (5, .int (nI (f + 1)))]) hx hb dX1_waysOver_39 hl (by decide) rfl (fun ls hl => ?_)
      refine lv_aload_n hx hb dX1_waysOver_41 rfl (lv_at hl 2 rfl) ?_
      refine va_get (D := D) (ci := 1) (v := .int op) (C := RX1) (T := TX1) (N := 5) hx hb hts hi_1 hown hK hP 0 rfl rfl 3 (by decide) hf_35 (fun _ h9 => h9) rfl dX1_waysOver_42 ?_
      refine lv_i2l (v := op.toInt64) hx hb dX1_waysOver_45 rfl ?_
      refine lv_lload hx hb dX1_waysOver_46 (lv_at hl 0 rfl) ?_
      refine lv_lmul hx hb dX1_waysOver_48 ?_
      refine lv_aload_n hx hb dX1_waysOver_49 rfl (lv_at hl 2 rfl) ?_
      refine va_get (D := D) (ci := 1) (v := .int sh) (C := RX1) (T := TX1) (N := 5) hx hb hts hi_1 hown hK hP 0 rfl rfl 4 (by decide) hf_38 (fun _ h9 => h9) rfl dX1_waysOver_50 ?_
      refine lv_i2l (v := sh.toInt64) hx hb dX1_waysOver_53 rfl ?_
      refine lv_aload_n hx hb dX1_waysOver_54 rfl (lv_at hl 2 rfl) ?_
      refine lv_iload_n hx hb dX1_waysOver_55 rfl (lv_at hl 4 rfl) ?_
      refine lv_iload_n hx hb dX1_waysOver_56 rfl (lv_at hl 5 rfl) ?_
      refine lv_iload hx hb dX1_waysOver_57 (lv_at hl 1 rfl) ?_
      refine lv_iload hx hb dX1_waysOver_59 (lv_at hl 7 rfl) ?_
      refine lv_iconst (v := 1) hx hb dX1_waysOver_61 (by decide) ?_
      refine lv_isub hx hb dX1_waysOver_62 ?_
      refine r_top (x' := nI f) (pk_sub (a := f + 1) (b := 1) (by omega)) ?_
      obtain ⟨y_63, hy_63⟩ : ∃ z : Int64, z = wF ec ba op sh go ln f re (tr ||| (1 <<< ((nI k) &&& 31))) := ⟨_, rfl⟩
      refine goRL hP hS (va_runV (As := [.int go, .int re, .int (tr ||| (1 <<< ((nI k) &&& 31))), .int (nI f)]) (rest := [.long sh.toInt64, .long (op.toInt64 * y_36)]) ⟨hx, hb, hml, hown, hts⟩ (hrec re (tr ||| (1 <<< ((nI k) &&& 31))) y_63 hy_63) (cwV 4 hts gX1_waysOver_X1_waysFrom rfl rfl rfl kdX1_waysFrom ⟨by show _ + 1 ≤ 2 * f + 6; first | (simp only [rmF]; omega) | exact Nat.le_trans (Nat.le_of_ble_eq_true rfl) (Nat.le_add_left 6 (2 * f)), by show _ ≤ 60 * f + 180; first | (simp only [rmF]; omega) | exact Nat.le_trans (Nat.le_of_ble_eq_true rfl) (Nat.le_add_left 180 (60 * f))⟩) (preRV hK hN hP 0 (ci := 1) rfl rfl rfl [0, 1] rfl) rfl rfl hl.1 rfl (lv_room (Nat.le_of_ble_eq_true rfl)) dX1_waysOver_63 ⟨Nat.zero_le _, Nat.zero_le _⟩) (fun H locs hP hS => ?_)
      refine lv_lmul hx hb dX1_waysOver_66 ?_
      refine lv_ladd hx hb dX1_waysOver_67 ?_
      exact endRL hx hb hr hlocks hQ hS dX1_waysOver_68 (by rw [hy_36, hy_63])
    · exact absurd c_7 (by omega)
set_option maxRecDepth 100000 in
set_option maxHeartbeats 1000000 in
theorem kX1_waysFrom (l : Launch) (D : va_G) (cI cJ : ClassId) (ch ac ln : Nat) (ba op sh : Int32) (ec : Row) (go : Int32) (f : Nat) (re tr : Int32) (y : Int64) (hln : ln ≤ 12) (hf12 : f < 12) (hover : ∀ (k : Nat), k < 12 → ∀ (re tr : Int32), ∀ (y : Int64), y = op.toInt64 * wF ec ba op sh go ln f (re ||| ec k) (tr ||| ((1 : Int32) <<< (nI k &&& 31))) + sh.toInt64 * wF ec ba op sh go ln f re (tr ||| ((1 : Int32) <<< (nI k &&& 31))) → Met l yX1_waysOver wsX1_waysOver (rmO f) (rPre D cI cJ [.ref ch, .int (nI k), .int go, .int re, .int tr, .int (nI (f + 1))] [(ch, .inr (1, [.ref ac, .int (nI ln), .int ba, .int op, .int sh])), (ac, .inl (cI, 12, .inl ec))]) (qRL y) 0 0 nA) (hy : y = wF ec ba op sh go ln (f + 1) re tr) : Met l yX1_waysFrom wsX1_waysFrom (rmF (f + 1)) (rPre D cI cJ [.ref ch, .int go, .int re, .int tr, .int (nI (f + 1))] [(ch, .inr (1, [.ref ac, .int (nI ln), .int ba, .int op, .int sh])), (ac, .inl (cI, 12, .inl ec))]) (qRL y) 0 0 nA := by
  refine startR (cc := cX1_waysFrom) (maxL := 6) (ret := (some .long)) (by decide) rfl (Nat.le_of_ble_eq_true rfl) ?_
  intro p e s m args below meth c ls Q hQ hx hb hr hlocks hml hown hts hK hN hP hl hin
  have hown : s.vm.findClass RX1 = some m.cls := hown
  have hi_1 : ∀ w ∈ wsX10, w ∈ wsX1_waysFrom := by decide +kernel
  have hf_35 := hts (.fieldLink RX1 35 "FireNets$Chances" "open" "I") (by decide +kernel)
  have hf_38 := hts (.fieldLink RX1 38 "FireNets$Chances" "shut" "I") (by decide +kernel)
  have hS : va_S nA s.heap s.heap [] := va_S.rf
  have hl : lv_has ls 6 [(0, .ref ch), (1, .int go), (2, .int re), (3, .int tr), (4, .int (nI (f + 1)))] := hl
  have hP : va_P D vwCl [(ch, .inr (1, [.ref ac, .int (nI ln), .int ba, .int op, .int sh])), (ac, .inl (cI, 12, .inl ec))] s.heap := hP
  subst hy
  refine lv_iload_n hx hb dX1_waysFrom_0 rfl (lv_at hl 2 rfl) ?_
  refine lv_iload_n hx hb dX1_waysFrom_1 rfl (lv_at hl 1 rfl) ?_
  refine lv_iand hx hb dX1_waysFrom_2 ?_
  refine lv_if_eq (tgt := 22) hx hb dX1_waysFrom_3 (by decide) (fun c_3 => ?_) (fun c_3 => ?_)
  · refine lv_iload hx hb dX1_waysFrom_22 (lv_at hl 4 rfl) ?_
    refine lv_if_gt (tgt := 31) hx hb dX1_waysFrom_24 (by decide) (fun c_24 => ?_) (fun c_24 => ?_)
    · refine lv_aload_n hx hb dX1_waysFrom_31 rfl (lv_at hl 0 rfl) ?_
      refine lv_iload_n hx hb dX1_waysFrom_32 rfl (lv_at hl 2 rfl) ?_
      refine lv_iload_n hx hb dX1_waysFrom_33 rfl (lv_at hl 3 rfl) ?_
      obtain ⟨v_34, hv_34⟩ : ∃ z : Int32, z = loF ec ba re tr ln 0 := ⟨_, rfl⟩
      refine goRI hP hS (va_runV (As := [.int re, .int tr]) (rest := []) ⟨hx, hb, hml, hown, hts⟩ (kX1_lineOnward l D cI cJ ch ac ln ba op sh ec re tr v_34 (by omega) hv_34) (cwV 2 hts gX1_waysFrom_X1_lineOnward rfl rfl rfl kdX1_lineOnward ⟨by show _ + 1 ≤ 2 * (f + 1) + 5; first | (simp only [rmO]; omega) | exact Nat.le_trans (Nat.le_of_ble_eq_true rfl) (Nat.le_add_left 5 (2 * (f + 1))), by show _ ≤ 60 * (f + 1) + 150; first | (simp only [rmO]; omega) | exact Nat.le_trans (Nat.le_of_ble_eq_true rfl) (Nat.le_add_left 150 (60 * (f + 1)))⟩) (preRV hK hN hP 0 (ci := 1) rfl rfl rfl [0, 1] rfl) rfl rfl hl.1 rfl (lv_room (Nat.le_of_ble_eq_true rfl)) dX1_waysFrom_34 ⟨Nat.zero_le _, Nat.zero_le _⟩) (fun H locs hP hS => ?_)
      refine lv_istore (lv' := [(5, .int v_34), (0, .ref ch), (1, .int go), (2, .int re), (3, .int tr), (4, .int (nI (f + 1)))]) hx hb dX1_waysFrom_37 hl (by decide) rfl (fun ls hl => ?_)
      refine lv_iload hx hb dX1_waysFrom_39 (lv_at hl 0 rfl) ?_
      refine lv_iconst (v := (-1)) hx hb dX1_waysFrom_41 (by decide) ?_
      refine lv_icmp_ne (tgt := 49) hx hb dX1_waysFrom_42 (by decide) (fun c_42 => ?_) (fun c_42 => ?_)
      · obtain ⟨kq, hkq, rfl⟩ := lo_ix hln hv_34 c_42
        refine lv_aload_n hx hb dX1_waysFrom_49 rfl (lv_at hl 1 rfl) ?_
        refine lv_iload hx hb dX1_waysFrom_50 (lv_at hl 0 rfl) ?_
        refine lv_iload_n hx hb dX1_waysFrom_52 rfl (lv_at hl 2 rfl) ?_
        refine lv_iload_n hx hb dX1_waysFrom_53 rfl (lv_at hl 3 rfl) ?_
        refine lv_iload_n hx hb dX1_waysFrom_54 rfl (lv_at hl 4 rfl) ?_
        refine lv_iload hx hb dX1_waysFrom_55 (lv_at hl 5 rfl) ?_
        obtain ⟨y_57, hy_57⟩ : ∃ z : Int64, z = op.toInt64 * wF ec ba op sh go ln f (re ||| ec kq) (tr ||| ((1 : Int32) <<< (nI kq &&& 31))) + sh.toInt64 * wF ec ba op sh go ln f re (tr ||| ((1 : Int32) <<< (nI kq &&& 31))) := ⟨_, rfl⟩
        refine goRL hP hS (va_runV (As := [.int (nI kq), .int go, .int re, .int tr, .int (nI (f + 1))]) (rest := []) ⟨hx, hb, hml, hown, hts⟩ (hover kq hkq re tr y_57 hy_57) (cwV 5 hts gX1_waysFrom_X1_waysOver rfl rfl rfl kdX1_waysOver ⟨by show _ + 1 ≤ 2 * (f + 1) + 5; first | (simp only [rmO]; omega) | exact Nat.le_trans (Nat.le_of_ble_eq_true rfl) (Nat.le_add_left 5 (2 * (f + 1))), by show _ ≤ 60 * (f + 1) + 150; first | (simp only [rmO]; omega) | exact Nat.le_trans (Nat.le_of_ble_eq_true rfl) (Nat.le_add_left 150 (60 * (f + 1)))⟩) (preRV hK hN hP 0 (ci := 1) rfl rfl rfl [0, 1] rfl) rfl rfl hl.1 rfl (lv_room (Nat.le_of_ble_eq_true rfl)) dX1_waysFrom_57 ⟨Nat.zero_le _, Nat.zero_le _⟩) (fun H locs hP hS => ?_)
        exact endRL hx hb hr hlocks hQ hS dX1_waysFrom_60 (by rw [wF, if_neg (fun h => h c_3), ← hv_34, if_neg c_42, hy_57, nI_clamp (by omega)])
      · refine lv_lconst (v := 0) hx hb dX1_waysFrom_45 (by decide) ?_
        refine lv_goto (tgt := 60) hx hb dX1_waysFrom_46 (by decide) ?_
        exact endRL hx hb hr hlocks hQ hS dX1_waysFrom_60 (by rw [wF, if_neg (fun h => h c_3), if_pos (hv_34 ▸ c_42)])
    · exact absurd (show (0 : Int32) < nI (f + 1) from (nI_ltI (a := 0) (by omega) (by omega)).mpr (by omega)) c_24
  · refine lv_aload_n hx hb dX1_waysFrom_6 rfl (lv_at hl 0 rfl) ?_
    refine va_get (D := D) (ci := 1) (v := .int op) (C := RX1) (T := TX1) (N := 5) hx hb hts hi_1 hown hK hP 0 rfl rfl 3 (by decide) hf_35 (fun _ h9 => h9) rfl dX1_waysFrom_7 ?_
    refine lv_aload_n hx hb dX1_waysFrom_10 rfl (lv_at hl 0 rfl) ?_
    refine va_get (D := D) (ci := 1) (v := .int sh) (C := RX1) (T := TX1) (N := 5) hx hb hts hi_1 hown hK hP 0 rfl rfl 4 (by decide) hf_38 (fun _ h9 => h9) rfl dX1_waysFrom_11 ?_
    refine lv_iadd hx hb dX1_waysFrom_14 ?_
    refine lv_i2l (v := (op + sh).toInt64) hx hb dX1_waysFrom_15 rfl ?_
    refine lv_iload hx hb dX1_waysFrom_16 (lv_at hl 4 rfl) ?_
    refine goRL hP hS (va_runS (As := [.long ((op + sh).toInt64), .int (nI (f + 1))]) (rest := []) ⟨hx, hb, hml, hown, hts⟩ (kX1_power l D cI cJ ((op + sh).toInt64) (f + 1) (by omega)) (va_cwS 2 hts gX1_waysFrom_X1_power rfl rfl rfl kdX1_power.2 ⟨by show _ + 1 ≤ 2 * (f + 1) + 5; first | (simp only [rmO]; omega) | exact Nat.le_trans (Nat.le_of_ble_eq_true rfl) (Nat.le_add_left 5 (2 * (f + 1))), by show _ ≤ 60 * (f + 1) + 150; first | (simp only [rmO]; omega) | exact Nat.le_trans (Nat.le_of_ble_eq_true rfl) (Nat.le_add_left 150 (60 * (f + 1)))⟩) (preR hK hN hP [] rfl) rfl rfl hl.1 rfl (lv_room (Nat.le_of_ble_eq_true rfl)) dX1_waysFrom_18 ⟨Nat.zero_le _, Nat.zero_le _⟩) (fun H locs hP hS => ?_)
    exact endRL hx hb hr hlocks hQ hS dX1_waysFrom_21 (by rw [wF, if_pos c_3])
/-- the ways by what is left -/
theorem kX1_waysAll (l : Launch) (D : va_G) (cI cJ : ClassId) (ch ac ln : Nat) (ba op sh : Int32) (ec : Row) (go : Int32) (hln : ln ≤ 12) : ∀ (f : Nat), f ≤ 12 → ∀ (re tr : Int32), ∀ (y : Int64), y = wF ec ba op sh go ln f re tr → Met l yX1_waysFrom wsX1_waysFrom (rmF f) (rPre D cI cJ [.ref ch, .int go, .int re, .int tr, .int (nI f)] [(ch, .inr (1, [.ref ac, .int (nI ln), .int ba, .int op, .int sh])), (ac, .inl (cI, 12, .inl ec))]) (qRL y) 0 0 nA := by
  intro f
  induction f with
  | zero =>
    intro _ re tr y hy
    exact kX1_waysFrom0 l D cI cJ ch ac ln ba op sh ec go re tr y hy
  | succ f ih =>
    intro hf re tr y hy
    exact kX1_waysFrom l D cI cJ ch ac ln ba op sh ec go f re tr y hln (by omega) (fun k hk re tr y hy => kX1_waysOver l D cI cJ ch ac ln ba op sh ec go f k re tr y hk (by omega) (fun re tr => ih (by omega) re tr) hy) hy
def rmX1_waysTo : Room := { frames := 40, cells := 0, slots := 0, locals := 1000 }
theorem kdX1_waysTo : yX1_waysTo.cls = RX1 ∧ yX1_waysTo.cls ≠ "java/lang/invoke/MethodHandle" ∧ yX1_waysTo.cls ≠ "java/lang/invoke/VarHandle" ∧ (parseMethodDescriptor yX1_waysTo.desc).map (fun d => d.parameters.length) = some 2 := ⟨rfl, by decide +kernel, by decide +kernel, by decide +kernel⟩
set_option maxRecDepth 100000 in
set_option maxHeartbeats 1000000 in
theorem kX1_waysTo (l : Launch) (D : va_G) (cI cJ : ClassId) (ch ac ln : Nat) (ba op sh : Int32) (ec : Row) (k fire : Int32) (y : Int64) (hln : ln ≤ 12) (hy : y = wF ec ba op sh ((1 : Int32) <<< (k &&& 31)) ln ln fire 0) : Met l yX1_waysTo wsX1_waysTo rmX1_waysTo (rPre D cI cJ [.ref ch, .int k, .int fire] [(ch, .inr (1, [.ref ac, .int (nI ln), .int ba, .int op, .int sh])), (ac, .inl (cI, 12, .inl ec))]) (qRL y) 0 0 nA := by
  refine startR (cc := cX1_waysTo) (maxL := 3) (ret := (some .long)) (by decide) rfl (Nat.le_of_ble_eq_true rfl) ?_
  intro p e s m args below meth c ls Q hQ hx hb hr hlocks hml hown hts hK hN hP hl hin
  have hown : s.vm.findClass RX1 = some m.cls := hown
  have hi_1 : ∀ w ∈ wsX10, w ∈ wsX1_waysTo := by decide +kernel
  have hf_27 := hts (.fieldLink RX1 27 "FireNets$Chances" "lines" "I") (by decide +kernel)
  have hS : va_S nA s.heap s.heap [] := va_S.rf
  have hl : lv_has ls 3 [(0, .ref ch), (1, .int k), (2, .int fire)] := hl
  have hP : va_P D vwCl [(ch, .inr (1, [.ref ac, .int (nI ln), .int ba, .int op, .int sh])), (ac, .inl (cI, 12, .inl ec))] s.heap := hP
  refine lv_aload_n hx hb dX1_waysTo_0 rfl (lv_at hl 0 rfl) ?_
  refine lv_iconst (v := 1) hx hb dX1_waysTo_1 (by decide) ?_
  refine lv_iload_n hx hb dX1_waysTo_2 rfl (lv_at hl 1 rfl) ?_
  refine lv_ishl hx hb dX1_waysTo_3 ?_
  refine lv_iload_n hx hb dX1_waysTo_4 rfl (lv_at hl 2 rfl) ?_
  refine lv_iconst (v := 0) hx hb dX1_waysTo_5 (by decide) ?_
  refine lv_aload_n hx hb dX1_waysTo_6 rfl (lv_at hl 0 rfl) ?_
  refine va_get (D := D) (ci := 1) (v := .int (nI ln)) (C := RX1) (T := TX1) (N := 5) hx hb hts hi_1 hown hK hP 0 rfl rfl 1 (by decide) hf_27 (fun _ h9 => h9) rfl dX1_waysTo_7 ?_
  obtain ⟨y_10, hy_10⟩ : ∃ z : Int64, z = wF ec ba op sh ((1 : Int32) <<< (k &&& 31)) ln ln fire 0 := ⟨_, rfl⟩
  refine goRL hP hS (va_runV (As := [.int (1 <<< (k &&& 31)), .int fire, .int 0, .int (nI ln)]) (rest := []) ⟨hx, hb, hml, hown, hts⟩ (kX1_waysAll l D cI cJ ch ac ln ba op sh ec ((1 : Int32) <<< (k &&& 31)) hln ln hln fire 0 y_10 hy_10) (cwV 4 hts gX1_waysTo_X1_waysFrom rfl rfl rfl kdX1_waysFrom ⟨by show _ + 1 ≤ 40; simp only [rmF]; omega, by show _ ≤ 1000; simp only [rmF]; omega⟩) (preRV hK hN hP 0 (ci := 1) rfl rfl rfl [0, 1] rfl) rfl rfl hl.1 rfl (lv_room (Nat.le_of_ble_eq_true rfl)) dX1_waysTo_10 ⟨Nat.zero_le _, Nat.zero_le _⟩) (fun H locs hP hS => ?_)
  exact endRL hx hb hr hlocks hQ hS dX1_waysTo_13 (by rw [hy, hy_10])

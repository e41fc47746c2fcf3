/-! purses and courses: burning, guards, tick, cost, bad, over, money -/
abbrev Cs := Int32 × Int32 × Nat × Int32 × Bool × Bool × Int32
def moneyI (ow : Row) (ke : Int32) (t : Nat) (left : Int32) : Int32 := ow (min t 8 - 1) + (if ke = 1 then left else 0)
theorem mon_ix {t : Nat} (h1 : 1 ≤ t) (h2 : t < 2 ^ 31) : (if 0 < (if 8 < nI t then 8 else nI t) - 1 then (if 8 < nI t then 8 else nI t) - 1 else 0) = nI (min t 8 - 1) := by
  have e8 : (8 : Int32) = nI 8 := rfl
  have e0 : (0 : Int32) = nI 0 := rfl
  have h : (if 8 < nI t then 8 else nI t) = nI (min t 8) := by
    by_cases h : 8 < t
    · rw [if_pos (by rw [e8]; exact (nI_ltI (by omega) h2).mpr h), Nat.min_eq_right (by omega), e8]
    · rw [if_neg (by rw [e8, nI_ltI (by omega) h2]; exact h), Nat.min_eq_left (by omega)]
  rw [h, i_pred (by omega)]
  by_cases h3 : 0 < min t 8 - 1
  · rw [if_pos (by rw [e0]; exact (nI_ltI (by omega) (by omega)).mpr h3)]
  · rw [if_neg (by rw [e0, nI_ltI (by omega) (by omega)]; exact h3), show min t 8 - 1 = 0 by omega, e0]
def fillF {α : Type} (f : Nat → α) (v : α) (k : Nat) : Nat → α := fun j => if j < k then v else f j
theorem fillF_0 {α : Type} (f : Nat → α) (v : α) : fillF f v 0 = f := by
  funext j
  simp [fillF]
theorem fillF_S (f : Row) (v : Int32) (k : Nat) : fillF f v (k + 1) = upd (fillF f v k) k v := by
  funext j
  simp only [fillF, upd]
  by_cases h : j = k
  · simp [h]
  · rw [if_neg h]
    by_cases h2 : j < k
    · rw [if_pos h2, if_pos (by omega)]
    · rw [if_neg h2, if_neg (by omega)]
theorem fillF_SL (f : Nat → Int64) (v : Int64) (k : Nat) : fillF f v (k + 1) = vp_updL (fillF f v k) k v := by
  funext j
  simp only [fillF, vp_updL]
  by_cases h : j = k
  · simp [h]
  · rw [if_neg h]
    by_cases h2 : j < k
    · rw [if_pos h2, if_pos (by omega)]
    · rw [if_neg h2, if_neg (by omega)]
def openC (ow : Row) (ke : Int32) (x : Cs) : Cs := (x.1, x.2.1, x.2.2.1 + 1, x.2.2.2.1, x.2.2.2.2.1, x.2.2.2.2.2.1, moneyI ow ke (x.2.2.1 + 1) x.2.2.2.2.2.2)
def payC (v pc : Int32) (x : Cs) : Cs := (x.1, x.2.1 ||| v, x.2.2.1, x.2.2.2.1 + pc, x.2.2.2.2.1, x.2.2.2.2.2.1, x.2.2.2.2.2.2 - pc)
def badC (x : Cs) : Cs := (x.1, x.2.1, x.2.2.1, x.2.2.2.1, true, x.2.2.2.2.2.1, x.2.2.2.2.2.2)
def lawI (n : Int32) (pr : Row) (v bu gu mo : Int32) : Prop := v &&& (freeI n bu gu ^^^ (-1)) = 0 ∧ sumI pr v 10 ≤ mo
theorem lawI_dec (n : Int32) (pr : Row) (v bu gu mo : Int32) : Decidable (lawI n pr v bu gu mo) = Decidable (v &&& (freeI n bu gu ^^^ (-1)) = 0 ∧ sumI pr v 10 ≤ mo) := rfl
def putSetC (n : Int32) (pr : Row) (v : Int32) (x : Cs) : Cs := if v &&& (freeI n x.1 x.2.1 ^^^ (-1)) = 0 ∧ sumI pr v 10 ≤ x.2.2.2.2.2.2 then payC v (sumI pr v 10) x else badC x
def spreadC (ne : Row) (x : Cs) : Cs := if x.2.2.2.2.1 = true then x else if thr ne x.1 x.2.1 = 0 then (x.1 ||| thr ne x.1 x.2.1, x.2.1, x.2.2.1, x.2.2.2.1, x.2.2.2.2.1, true, x.2.2.2.2.2.2) else (x.1 ||| thr ne x.1 x.2.1, x.2.1, x.2.2.1, x.2.2.2.1, x.2.2.2.2.1, false, x.2.2.2.2.2.2)
def ruleS (wo ne pr : Row) (ru : Int32) (x : Cs) : Cs := if pickI wo ne pr ru x.1 x.2.1 x.2.2.2.2.2.2 = -1 then x else payC ((1 : Int32) <<< (pickI wo ne pr ru x.1 x.2.1 x.2.2.2.2.2.2 &&& 31)) (sumI pr ((1 : Int32) <<< (pickI wo ne pr ru x.1 x.2.1 x.2.2.2.2.2.2 &&& 31)) 10) x
def ruleA (wo ne pr : Row) (ru : Int32) (x : Cs) : Nat → Cs
  | 0 => x
  | k + 1 => ruleS wo ne pr ru (ruleA wo ne pr ru x k)
theorem ruleA_stop {wo ne pr : Row} {ru : Int32} {x : Cs} {k : Nat} (h : ruleS wo ne pr ru (ruleA wo ne pr ru x k) = ruleA wo ne pr ru x k) : ∀ j, ruleA wo ne pr ru x (k + j) = ruleA wo ne pr ru x k
  | 0 => rfl
  | j + 1 => by
    show ruleS wo ne pr ru (ruleA wo ne pr ru x (k + j)) = _
    rw [ruleA_stop h j, h]
def rmJ7_fill_53178 : Room := { frames := 0, cells := 0, slots := 0, locals := 0 }
theorem kdJ7_fill_53178 : yJ7_fill_53178.cls = RJ7 ∧ yJ7_fill_53178.cls ≠ "java/lang/invoke/MethodHandle" ∧ yJ7_fill_53178.cls ≠ "java/lang/invoke/VarHandle" ∧ (parseMethodDescriptor yJ7_fill_53178.desc).map (fun d => d.parameters.length) = some 2 := ⟨rfl, by decide +kernel, by decide +kernel, by decide +kernel⟩
set_option maxRecDepth 100000 in
set_option maxHeartbeats 1000000 in
theorem kJ7_fill_53178 (l : Launch) (D : va_G) (cI cJ : ClassId) (ar N : Nat) (f : Row) (v : Int32) (hN : N < 2 ^ 31) : Met l yJ7_fill_53178 wsJ7_fill_53178 rmJ7_fill_53178 (mPre D cI cJ [.ref ar, .int v] [(ar, .inl (cI, N, .inl f))]) (mQv D (fun (_ : Unit) => True) (fun (_ : Unit) => [(ar, .inl (cI, N, .inl (fillF f v N)))]) [(ar, .inl (cI, N, .inl f))]) 0 0 (mA [(ar, .inl (cI, N, .inl f))]) := by
  refine startM (cc := cJ7_fill_53178) (maxL := 4) (ret := none) (by decide) rfl (Nat.le_of_ble_eq_true rfl) ?_
  intro p e s m args below meth c ls Q A hA hQ hx hb hr hlocks hml hown hts hK hN hP hD hl hin
  have hown : s.vm.findClass RJ7 = some m.cls := hown
  have hS : va_S A s.heap s.heap [] := va_S.rf
  have hl : lv_has ls 4 [(0, .ref ar), (1, .int v)] := hl
  have hP : va_P D vwCl [(ar, .inl (cI, N, .inl f))] s.heap := hP
  refine lv_iconst (v := 0) hx hb dJ7_fill_53178_0 (by decide) ?_
  refine lv_istore_n (lv' := [(2, .int 0), (0, .ref ar), (1, .int v)]) hx hb dJ7_fill_53178_1 rfl hl (by decide) rfl (fun ls hl => ?_)
  refine lv_aload_n hx hb dJ7_fill_53178_2 rfl (lv_at hl 1 rfl) ?_
  refine va_alen (v := nI N) hx hb hK hP 0 0 rfl rfl rfl dJ7_fill_53178_3 ?_
  refine lv_istore_n (lv' := [(3, .int (nI N)), (2, .int 0), (0, .ref ar), (1, .int v)]) hx hb dJ7_fill_53178_4 rfl hl (by decide) rfl (fun ls hl => ?_)
  have lp : ∀ (fu : Nat) (k : Nat), (k ≤ N) → N - k < fu → ∀ (ls : Array Slot) (H : Heap) (locs : List Loc), lv_has ls 4 [(0, .ref ar), (1, .int v), (2, .int (nI k)), (3, .int (nI N))] → va_P D vwCl [(ar, .inl (cI, N, .inl (fillF f v k)))] H → va_D A [(ar, .inl (cI, N, .inl (fillF f v k)))] → va_S A s.heap H locs → W p l e rmJ7_fill_53178 s m args below meth c H locs 0 0 Q (F0 m 5 ls []) := by
    intro fu
    induction fu with
    | zero => intro k hk hf; exact absurd hf (Nat.not_lt_zero _)
    | succ fu ih_lp =>
      intro k hk hf ls H locs hl hP hD hS
      refine lv_iload_n hx hb dJ7_fill_53178_5 rfl (lv_at hl 2 rfl) ?_
      refine lv_iload_n hx hb dJ7_fill_53178_6 rfl (lv_at hl 3 rfl) ?_
      refine r_icmp_ge (tgt := 20) hx hb k N dJ7_fill_53178_7 (by decide) rfl rfl (by omega) (by omega) (fun c_7 => ?_) (fun c_7 => ?_)
      · exact endMV () hx hb hr hlocks hA hQ hS hP dJ7_fill_53178_20 (by rw [show k = N by omega]) trivial
      · refine lv_aload_n hx hb dJ7_fill_53178_10 rfl (lv_at hl 0 rfl) ?_
        refine lv_iload_n hx hb dJ7_fill_53178_11 rfl (lv_at hl 2 rfl) ?_
        refine lv_iload_n hx hb dJ7_fill_53178_12 rfl (lv_at hl 1 rfl) ?_
        refine r_iast hx hb hK hP hD hS 0 rfl k rfl (by omega) (by omega) dJ7_fill_53178_13 (fun H locs hP hD hS => ?_)
        have hP : va_P D vwCl [(ar, .inl (cI, N, .inl (upd (fillF f v k) k v)))] H := hP
        have hD : va_D A [(ar, .inl (cI, N, .inl (upd (fillF f v k) k v)))] := hD
        refine r_iinc (lv' := [(2, .int (nI (k + 1))), (0, .ref ar), (1, .int v), (3, .int (nI N))]) hx hb 2 k dJ7_fill_53178_14 hl rfl (by decide) rfl (fun ls hl => ?_)
        refine lv_goto (tgt := 5) hx hb dJ7_fill_53178_17 (by decide) ?_
        exact ih_lp (k + 1) (by omega) (by omega) ls _ _ (lv_sub hl [1, 2, 0, 3] rfl) (by rw [fillF_S]; exact hP) (by rw [fillF_S]; exact hD) hS
  exact lp _ 0 (by omega) (Nat.lt_succ_self _) ls _ _ (lv_sub hl [2, 3, 1, 0] rfl) (by rw [fillF_0]; exact hP) (by rw [fillF_0]; exact hD) hS
def rmJ7_fill_d0a16 : Room := { frames := 0, cells := 0, slots := 0, locals := 0 }
theorem kdJ7_fill_d0a16 : yJ7_fill_d0a16.cls = RJ7 ∧ yJ7_fill_d0a16.cls ≠ "java/lang/invoke/MethodHandle" ∧ yJ7_fill_d0a16.cls ≠ "java/lang/invoke/VarHandle" ∧ (parseMethodDescriptor yJ7_fill_d0a16.desc).map (fun d => d.parameters.length) = some 2 := ⟨rfl, by decide +kernel, by decide +kernel, by decide +kernel⟩
set_option maxRecDepth 100000 in
set_option maxHeartbeats 1000000 in
theorem kJ7_fill_d0a16 (l : Launch) (D : va_G) (cI cJ : ClassId) (ar N : Nat) (f : Nat → Int64) (v : Int64) (hN : N < 2 ^ 31) : Met l yJ7_fill_d0a16 wsJ7_fill_d0a16 rmJ7_fill_d0a16 (mPre D cI cJ [.ref ar, .long v] [(ar, .inl (cJ, N, .inr (.inl f)))]) (mQv D (fun (_ : Unit) => True) (fun (_ : Unit) => [(ar, .inl (cJ, N, .inr (.inl (fillF f v N))))]) [(ar, .inl (cJ, N, .inr (.inl f)))]) 0 0 (mA [(ar, .inl (cJ, N, .inr (.inl f)))]) := by
  refine startM (cc := cJ7_fill_d0a16) (maxL := 5) (ret := none) (by decide) rfl (Nat.le_of_ble_eq_true rfl) ?_
  intro p e s m args below meth c ls Q A hA hQ hx hb hr hlocks hml hown hts hK hN hP hD hl hin
  have hown : s.vm.findClass RJ7 = some m.cls := hown
  have hS : va_S A s.heap s.heap [] := va_S.rf
  have hl : lv_has ls 5 [(0, .ref ar), (1, .long v)] := hl
  have hP : va_P D vwCl [(ar, .inl (cJ, N, .inr (.inl f)))] s.heap := hP
  refine lv_iconst (v := 0) hx hb dJ7_fill_d0a16_0 (by decide) ?_
  refine lv_istore_n (lv' := [(3, .int 0), (0, .ref ar), (1, .long v)]) hx hb dJ7_fill_d0a16_1 rfl hl (by decide) rfl (fun ls hl => ?_)
  refine lv_aload_n hx hb dJ7_fill_d0a16_2 rfl (lv_at hl 1 rfl) ?_
  refine va_alen (v := nI N) hx hb hK hP 0 1 rfl rfl rfl dJ7_fill_d0a16_3 ?_
  refine lv_istore (lv' := [(4, .int (nI N)), (3, .int 0), (0, .ref ar), (1, .long v)]) hx hb dJ7_fill_d0a16_4 hl (by decide) rfl (fun ls hl => ?_)
  have lp : ∀ (fu : Nat) (k : Nat), (k ≤ N) → N - k < fu → ∀ (ls : Array Slot) (H : Heap) (locs : List Loc), lv_has ls 5 [(0, .ref ar), (1, .long v), (3, .int (nI k)), (4, .int (nI N))] → va_P D vwCl [(ar, .inl (cJ, N, .inr (.inl (fillF f v k))))] H → va_D A [(ar, .inl (cJ, N, .inr (.inl (fillF f v k))))] → va_S A s.heap H locs → W p l e rmJ7_fill_d0a16 s m args below meth c H locs 0 0 Q (F0 m 6 ls []) := by
    intro fu
    induction fu with
    | zero => intro k hk hf; exact absurd hf (Nat.not_lt_zero _)
    | succ fu ih_lp =>
      intro k hk hf ls H locs hl hP hD hS
      refine lv_iload_n hx hb dJ7_fill_d0a16_6 rfl (lv_at hl 2 rfl) ?_
      refine lv_iload hx hb dJ7_fill_d0a16_7 (lv_at hl 3 rfl) ?_
      refine r_icmp_ge (tgt := 22) hx hb k N dJ7_fill_d0a16_9 (by decide) rfl rfl (by omega) (by omega) (fun c_9 => ?_) (fun c_9 => ?_)
      · exact endMV () hx hb hr hlocks hA hQ hS hP dJ7_fill_d0a16_22 (by rw [show k = N by omega]) trivial
      · refine lv_aload_n hx hb dJ7_fill_d0a16_12 rfl (lv_at hl 0 rfl) ?_
        refine lv_iload_n hx hb dJ7_fill_d0a16_13 rfl (lv_at hl 2 rfl) ?_
        refine lv_lload_n hx hb dJ7_fill_d0a16_14 rfl (lv_at hl 1 rfl) ?_
        refine r_last hx hb hK hP hD hS 0 rfl k rfl (by omega) (by omega) dJ7_fill_d0a16_15 (fun H locs hP hD hS => ?_)
        have hP : va_P D vwCl [(ar, .inl (cJ, N, .inr (.inl (vp_updL (fillF f v k) k v))))] H := hP
        have hD : va_D A [(ar, .inl (cJ, N, .inr (.inl (vp_updL (fillF f v k) k v))))] := hD
        refine r_iinc (lv' := [(3, .int (nI (k + 1))), (0, .ref ar), (1, .long v), (4, .int (nI N))]) hx hb 2 k dJ7_fill_d0a16_16 hl rfl (by decide) rfl (fun ls hl => ?_)
        refine lv_goto (tgt := 6) hx hb dJ7_fill_d0a16_19 (by decide) ?_
        exact ih_lp (k + 1) (by omega) (by omega) ls _ _ (lv_sub hl [1, 2, 0, 3] rfl) (by rw [fillF_SL]; exact hP) (by rw [fillF_SL]; exact hD) hS
  exact lp _ 0 (by omega) (Nat.lt_succ_self _) ls _ _ (lv_sub hl [2, 3, 1, 0] rfl) (by rw [fillF_0]; exact hP) (by rw [fillF_0]; exact hD) hS
def rmX4_money : Room := { frames := 1, cells := 0, slots := 0, locals := 30 }
theorem kdX4_money : yX4_money.cls = RX4 ∧ yX4_money.cls ≠ "java/lang/invoke/MethodHandle" ∧ yX4_money.cls ≠ "java/lang/invoke/VarHandle" ∧ (parseMethodDescriptor yX4_money.desc).map (fun d => d.parameters.length) = some 2 := ⟨rfl, by decide +kernel, by decide +kernel, by decide +kernel⟩
set_option maxRecDepth 100000 in
set_option maxHeartbeats 1000000 in
theorem kX4_money (l : Launch) (D : va_G) (cI cJ : ClassId) (pu ao t : Nat) (ke left : Int32) (ow : Row) (h1 : 1 ≤ t) (h2 : t < 2 ^ 31) : Met l yX4_money wsX4_money rmX4_money (rPre D cI cJ [.ref pu, .int (nI t), .int left] [(pu, .inr (4, [.ref ao, .int ke])), (ao, .inl (cI, 8, .inl ow))]) (qRI (moneyI ow ke t left)) 0 0 nA := by
  refine startR (cc := cX4_money) (maxL := 4) (ret := (some .int)) (by decide) rfl (Nat.le_of_ble_eq_true rfl) ?_
  intro p e s m args below meth c ls Q hQ hx hb hr hlocks hml hown hts hK hN hP hl hin
  have hown : s.vm.findClass RX4 = some m.cls := hown
  have hi_4 : ∀ w ∈ wsX40, w ∈ wsX4_money := by decide +kernel
  have hf_9 := hts (.fieldLink RX4 9 "FireNets$Purses" "own" "[I") (by decide +kernel)
  have hf_27 := hts (.fieldLink RX4 27 "FireNets$Purses" "keeping" "I") (by decide +kernel)
  have hm0_min := hts (.methodLink RX4 31 Lib.Math.min.name) (by decide +kernel)
  have hm1_min := hts (.static Lib.Math.min.name) (by decide +kernel)
  have hm2_min := hts (.initialized "java/lang/Math") (by decide +kernel)
  have hm3_min := hts (.code Lib.Math.min.name Lib.Math.min.code 2 (some .int)) (by decide +kernel)
  have hm0_max := hts (.methodLink RX4 37 Lib.Math.max.name) (by decide +kernel)
  have hm1_max := hts (.static Lib.Math.max.name) (by decide +kernel)
  have hm2_max := hts (.initialized "java/lang/Math") (by decide +kernel)
  have hm3_max := hts (.code Lib.Math.max.name Lib.Math.max.code 2 (some .int)) (by decide +kernel)
  have hS : va_S nA s.heap s.heap [] := va_S.rf
  have hl : lv_has ls 4 [(0, .ref pu), (1, .int (nI t)), (2, .int left)] := hl
  have hP : va_P D vwCl [(pu, .inr (4, [.ref ao, .int ke])), (ao, .inl (cI, 8, .inl ow))] s.heap := hP
  refine lv_iconst (v := 0) hx hb dX4_money_0 (by decide) ?_
  refine lv_iload_n hx hb dX4_money_1 rfl (lv_at hl 1 rfl) ?_
  refine lv_bipush (v := 8) hx hb dX4_money_2 (by decide) ?_
  refine va_mmin hx hb (hml.trans hl.1.symm) hown hm0_min hm1_min hm2_min hm3_min (Nat.le_of_ble_eq_true rfl) (Nat.le_of_ble_eq_true rfl) (Nat.zero_le _) (Nat.zero_le _) dX4_money_4 ?_
  refine lv_iconst (v := 1) hx hb dX4_money_7 (by decide) ?_
  refine lv_isub hx hb dX4_money_8 ?_
  refine va_mmax hx hb (hml.trans hl.1.symm) hown hm0_max hm1_max hm2_max hm3_max (Nat.le_of_ble_eq_true rfl) (Nat.le_of_ble_eq_true rfl) (Nat.zero_le _) (Nat.zero_le _) dX4_money_9 ?_
  refine r_top (x' := nI (min t 8 - 1)) (mon_ix h1 h2) ?_
  refine lv_istore_n (lv' := [(3, .int (nI (min t 8 - 1))), (0, .ref pu), (1, .int (nI t)), (2, .int left)]) hx hb dX4_money_12 rfl hl (by decide) rfl (fun ls hl => ?_)
  refine lv_aload_n hx hb dX4_money_13 rfl (lv_at hl 1 rfl) ?_
  refine va_get (D := D) (ci := 4) (v := .ref ao) (C := RX4) (T := TX4) (N := 2) hx hb hts hi_4 hown hK hP 0 rfl rfl 0 (by decide) hf_9 (fun _ h9 => h9) rfl dX4_money_14 ?_
  refine lv_iload_n hx hb dX4_money_17 rfl (lv_at hl 0 rfl) ?_
  refine r_iald hx hb hK hP 1 rfl (min t 8 - 1) rfl (by omega) (by omega) dX4_money_18 ?_
  refine lv_aload_n hx hb dX4_money_19 rfl (lv_at hl 1 rfl) ?_
  refine va_get (D := D) (ci := 4) (v := .int ke) (C := RX4) (T := TX4) (N := 2) hx hb hts hi_4 hown hK hP 0 rfl rfl 1 (by decide) hf_27 (fun _ h9 => h9) rfl dX4_money_20 ?_
  refine lv_iconst (v := 1) hx hb dX4_money_23 (by decide) ?_
  refine lv_icmp_ne (tgt := 31) hx hb dX4_money_24 (by decide) (fun c_24 => ?_) (fun c_24 => ?_)
  · refine lv_iconst (v := 0) hx hb dX4_money_31 (by decide) ?_
    refine lv_iadd hx hb dX4_money_32 ?_
    exact endRI hx hb hr hlocks hQ hS dX4_money_33 (by rw [moneyI, if_neg c_24])
  · refine lv_iload_n hx hb dX4_money_27 rfl (lv_at hl 3 rfl) ?_
    refine lv_goto (tgt := 32) hx hb dX4_money_28 (by decide) ?_
    refine lv_iadd hx hb dX4_money_32 ?_
    exact endRI hx hb hr hlocks hQ hS dX4_money_33 (by rw [moneyI, if_pos c_24])
def rmX4_copy : Room := { frames := 1, cells := 0, slots := 0, locals := 60 }
theorem kdX4_copy : yX4_copy.cls = RX4 ∧ yX4_copy.cls ≠ "java/lang/invoke/MethodHandle" ∧ yX4_copy.cls ≠ "java/lang/invoke/VarHandle" ∧ (parseMethodDescriptor yX4_copy.desc).map (fun d => d.parameters.length) = some 1 := ⟨rfl, by decide +kernel, by decide +kernel, by decide +kernel⟩
set_option maxRecDepth 100000 in
set_option maxHeartbeats 1000000 in
theorem kX4_copy (l : Launch) (D : va_G) (cI cJ : ClassId) (pu ao pv av : Nat) (ke kf : Int32) (ow ov : Row)  : Met l yX4_copy wsX4_copy rmX4_copy (mPre D cI cJ [.ref pu, .ref pv] [(pu, .inr (4, [.ref ao, .int ke])), (ao, .inl (cI, 8, .inl ow)), (pv, .inr (4, [.ref av, .int kf])), (av, .inl (cI, 8, .inl ov))]) (mQv D (fun (_ : Unit) => True) (fun (_ : Unit) => [(pu, .inr (4, [.ref ao, .int kf])), (ao, .inl (cI, 8, .inl (va_cpy ov ow 0 0 8))), (pv, .inr (4, [.ref av, .int kf])), (av, .inl (cI, 8, .inl ov))]) [(pu, .inr (4, [.ref ao, .int ke])), (ao, .inl (cI, 8, .inl ow)), (pv, .inr (4, [.ref av, .int kf])), (av, .inl (cI, 8, .inl ov))]) 0 0 (mA [(pu, .inr (4, [.ref ao, .int ke])), (ao, .inl (cI, 8, .inl ow)), (pv, .inr (4, [.ref av, .int kf])), (av, .inl (cI, 8, .inl ov))]) := by
  refine startM (cc := cX4_copy) (maxL := 2) (ret := none) (by decide) rfl (Nat.le_of_ble_eq_true rfl) ?_
  intro p e s m args below meth c ls Q A hA hQ hx hb hr hlocks hml hown hts hK hN hP hD hl hin
  have hown : s.vm.findClass RX4 = some m.cls := hown
  have hi_4 : ∀ w ∈ wsX40, w ∈ wsX4_copy := by decide +kernel
  have hf_9 := hts (.fieldLink RX4 9 "FireNets$Purses" "own" "[I") (by decide +kernel)
  have hf_27 := hts (.fieldLink RX4 27 "FireNets$Purses" "keeping" "I") (by decide +kernel)
  have ha0 := hts (.methodLink RX4 21 arraycopyName) (by decide +kernel)
  have ha1 := hts (.native arraycopyName) (by decide +kernel)
  have ha2 := hts (.static arraycopyName) (by decide +kernel)
  have ha3 := hts (.initialized "java/lang/System") (by decide +kernel)
  have hS : va_S A s.heap s.heap [] := va_S.rf
  have hl : lv_has ls 2 [(0, .ref pu), (1, .ref pv)] := hl
  have hP : va_P D vwCl [(pu, .inr (4, [.ref ao, .int ke])), (ao, .inl (cI, 8, .inl ow)), (pv, .inr (4, [.ref av, .int kf])), (av, .inl (cI, 8, .inl ov))] s.heap := hP
  refine lv_aload_n hx hb dX4_copy_0 rfl (lv_at hl 1 rfl) ?_
  refine va_get (D := D) (ci := 4) (v := .ref av) (C := RX4) (T := TX4) (N := 2) hx hb hts hi_4 hown hK hP 2 rfl rfl 0 (by decide) hf_9 (fun _ h9 => h9) rfl dX4_copy_1 ?_
  refine lv_iconst (v := 0) hx hb dX4_copy_4 (by decide) ?_
  refine lv_aload_n hx hb dX4_copy_5 rfl (lv_at hl 0 rfl) ?_
  refine va_get (D := D) (ci := 4) (v := .ref ao) (C := RX4) (T := TX4) (N := 2) hx hb hts hi_4 hown hK hP 0 rfl rfl 0 (by decide) hf_9 (fun _ h9 => h9) rfl dX4_copy_6 ?_
  refine lv_iconst (v := 0) hx hb dX4_copy_9 (by decide) ?_
  refine lv_bipush (v := 8) hx hb dX4_copy_10 (by decide) ?_
  refine va_copyi (ty := .int) hx hb (hml.trans hl.1.symm) hown ha0 ha1 ha2 ha3 hK hP hD hS 3 1 0 0 rfl rfl rfl rfl rfl (by decide) (by decide) (by decide) (by decide) (by decide) (fun _ _ => rfl) (Nat.le_of_ble_eq_true rfl) (Nat.le_of_ble_eq_true rfl) dX4_copy_12 (fun H locs hP hD hS => ?_)
  have hP : va_P D vwCl [(pu, .inr (4, [.ref ao, .int ke])), (ao, .inl (cI, 8, .inl (va_cpy ov ow 0 0 8))), (pv, .inr (4, [.ref av, .int kf])), (av, .inl (cI, 8, .inl ov))] H := hP
  have hD : va_D A [(pu, .inr (4, [.ref ao, .int ke])), (ao, .inl (cI, 8, .inl (va_cpy ov ow 0 0 8))), (pv, .inr (4, [.ref av, .int kf])), (av, .inl (cI, 8, .inl ov))] := hD
  refine lv_aload_n hx hb dX4_copy_15 rfl (lv_at hl 0 rfl) ?_
  refine lv_aload_n hx hb dX4_copy_16 rfl (lv_at hl 1 rfl) ?_
  refine va_get (D := D) (ci := 4) (v := .int kf) (C := RX4) (T := TX4) (N := 2) hx hb hts hi_4 hown hK hP 2 rfl rfl 1 (by decide) hf_27 (fun _ h9 => h9) rfl dX4_copy_17 ?_
  refine va_put (D := D) (ci := 4) (v := .int kf) (ty := .int) (C := RX4) (T := TX4) (N := 2) hx hb hts hi_4 tyX4 tyX4_ok nmX4 hown hK hP hD hS 0 rfl rfl 1 (by decide) hf_27 (fun _ h9 => h9) rfl (by decide +kernel) rfl rfl (Nat.le_of_ble_eq_true rfl) dX4_copy_20 (fun H locs hP hD hS => ?_)
  have hP : va_P D vwCl [(pu, .inr (4, [.ref ao, .int kf])), (ao, .inl (cI, 8, .inl (va_cpy ov ow 0 0 8))), (pv, .inr (4, [.ref av, .int kf])), (av, .inl (cI, 8, .inl ov))] H := hP
  have hD : va_D A [(pu, .inr (4, [.ref ao, .int kf])), (ao, .inl (cI, 8, .inl (va_cpy ov ow 0 0 8))), (pv, .inr (4, [.ref av, .int kf])), (av, .inl (cI, 8, .inl ov))] := hD
  exact endMV () hx hb hr hlocks hA hQ hS hP dX4_copy_23 rfl trivial
def rmX2_begin : Room := { frames := 0, cells := 0, slots := 0, locals := 0 }
theorem kdX2_begin : yX2_begin.cls = RX2 ∧ yX2_begin.cls ≠ "java/lang/invoke/MethodHandle" ∧ yX2_begin.cls ≠ "java/lang/invoke/VarHandle" ∧ (parseMethodDescriptor yX2_begin.desc).map (fun d => d.parameters.length) = some 1 := ⟨rfl, by decide +kernel, by decide +kernel, by decide +kernel⟩
set_option maxRecDepth 100000 in
set_option maxHeartbeats 1000000 in
theorem kX2_begin (l : Launch) (D : va_G) (cI cJ : ClassId) (co : Nat) (x : Cs) (v : Int32)  : Met l yX2_begin wsX2_begin rmX2_begin (mPre D cI cJ [.ref co, .int v] [(co, .inr (2, [.int x.1, .int x.2.1, .int (nI x.2.2.1), .int x.2.2.2.1, .int (zb (x.2.2.2.2.1 = true)), .int (zb (x.2.2.2.2.2.1 = true)), .int x.2.2.2.2.2.2]))]) (mQv D (fun (_ : Unit) => True) (fun (_ : Unit) => [(co, .inr (2, [.int v, .int 0, .int (nI 0), .int 0, .int (zb (false = true)), .int (zb (false = true)), .int 0]))]) [(co, .inr (2, [.int x.1, .int x.2.1, .int (nI x.2.2.1), .int x.2.2.2.1, .int (zb (x.2.2.2.2.1 = true)), .int (zb (x.2.2.2.2.2.1 = true)), .int x.2.2.2.2.2.2]))]) 0 0 (mA [(co, .inr (2, [.int x.1, .int x.2.1, .int (nI x.2.2.1), .int x.2.2.2.1, .int (zb (x.2.2.2.2.1 = true)), .int (zb (x.2.2.2.2.2.1 = true)), .int x.2.2.2.2.2.2]))]) := by
  refine startM (cc := cX2_begin) (maxL := 2) (ret := none) (by decide) rfl (Nat.le_of_ble_eq_true rfl) ?_
  intro p e s m args below meth c ls Q A hA hQ hx hb hr hlocks hml hown hts hK hN hP hD hl hin
  have hown : s.vm.findClass RX2 = some m.cls := hown
  have hi_2 : ∀ w ∈ wsX20, w ∈ wsX2_begin := by decide +kernel
  have hf_9 := hts (.fieldLink RX2 9 "FireNets$Course" "burning" "I") (by decide +kernel)
  have hf_15 := hts (.fieldLink RX2 15 "FireNets$Course" "guards" "I") (by decide +kernel)
  have hf_18 := hts (.fieldLink RX2 18 "FireNets$Course" "tick" "I") (by decide +kernel)
  have hf_21 := hts (.fieldLink RX2 21 "FireNets$Course" "cost" "I") (by decide +kernel)
  have hf_24 := hts (.fieldLink RX2 24 "FireNets$Course" "bad" "Z") (by decide +kernel)
  have hf_28 := hts (.fieldLink RX2 28 "FireNets$Course" "over" "Z") (by decide +kernel)
  have hf_31 := hts (.fieldLink RX2 31 "FireNets$Course" "money" "I") (by decide +kernel)
  have hS : va_S A s.heap s.heap [] := va_S.rf
  have hl : lv_has ls 2 [(0, .ref co), (1, .int v)] := hl
  have hP : va_P D vwCl [(co, .inr (2, [.int x.1, .int x.2.1, .int (nI x.2.2.1), .int x.2.2.2.1, .int (zb (x.2.2.2.2.1 = true)), .int (zb (x.2.2.2.2.2.1 = true)), .int x.2.2.2.2.2.2]))] s.heap := hP
  refine lv_aload_n hx hb dX2_begin_0 rfl (lv_at hl 0 rfl) ?_
  refine lv_iload_n hx hb dX2_begin_1 rfl (lv_at hl 1 rfl) ?_
  refine va_put (D := D) (ci := 2) (v := .int v) (ty := .int) (C := RX2) (T := TX2) (N := 7) hx hb hts hi_2 tyX2 tyX2_ok nmX2 hown hK hP hD hS 0 rfl rfl 0 (by decide) hf_9 (fun _ h9 => h9) rfl (by decide +kernel) rfl rfl (Nat.le_of_ble_eq_true rfl) dX2_begin_2 (fun H locs hP hD hS => ?_)
  have hP : va_P D vwCl [(co, .inr (2, [.int v, .int x.2.1, .int (nI x.2.2.1), .int x.2.2.2.1, .int (zb (x.2.2.2.2.1 = true)), .int (zb (x.2.2.2.2.2.1 = true)), .int x.2.2.2.2.2.2]))] H := hP
  have hD : va_D A [(co, .inr (2, [.int v, .int x.2.1, .int (nI x.2.2.1), .int x.2.2.2.1, .int (zb (x.2.2.2.2.1 = true)), .int (zb (x.2.2.2.2.2.1 = true)), .int x.2.2.2.2.2.2]))] := hD
  refine lv_aload_n hx hb dX2_begin_5 rfl (lv_at hl 0 rfl) ?_
  refine lv_iconst (v := 0) hx hb dX2_begin_6 (by decide) ?_
  refine va_put (D := D) (ci := 2) (v := .int 0) (ty := .int) (C := RX2) (T := TX2) (N := 7) hx hb hts hi_2 tyX2 tyX2_ok nmX2 hown hK hP hD hS 0 rfl rfl 1 (by decide) hf_15 (fun _ h9 => h9) rfl (by decide +kernel) rfl rfl (Nat.le_of_ble_eq_true rfl) dX2_begin_7 (fun H locs hP hD hS => ?_)
  have hP : va_P D vwCl [(co, .inr (2, [.int v, .int 0, .int (nI x.2.2.1), .int x.2.2.2.1, .int (zb (x.2.2.2.2.1 = true)), .int (zb (x.2.2.2.2.2.1 = true)), .int x.2.2.2.2.2.2]))] H := hP
  have hD : va_D A [(co, .inr (2, [.int v, .int 0, .int (nI x.2.2.1), .int x.2.2.2.1, .int (zb (x.2.2.2.2.1 = true)), .int (zb (x.2.2.2.2.2.1 = true)), .int x.2.2.2.2.2.2]))] := hD
  refine lv_aload_n hx hb dX2_begin_10 rfl (lv_at hl 0 rfl) ?_
  refine lv_iconst (v := 0) hx hb dX2_begin_11 (by decide) ?_
  refine va_put (D := D) (ci := 2) (v := .int 0) (ty := .int) (C := RX2) (T := TX2) (N := 7) hx hb hts hi_2 tyX2 tyX2_ok nmX2 hown hK hP hD hS 0 rfl rfl 2 (by decide) hf_18 (fun _ h9 => h9) rfl (by decide +kernel) rfl rfl (Nat.le_of_ble_eq_true rfl) dX2_begin_12 (fun H locs hP hD hS => ?_)
  have hP : va_P D vwCl [(co, .inr (2, [.int v, .int 0, .int 0, .int x.2.2.2.1, .int (zb (x.2.2.2.2.1 = true)), .int (zb (x.2.2.2.2.2.1 = true)), .int x.2.2.2.2.2.2]))] H := hP
  have hD : va_D A [(co, .inr (2, [.int v, .int 0, .int 0, .int x.2.2.2.1, .int (zb (x.2.2.2.2.1 = true)), .int (zb (x.2.2.2.2.2.1 = true)), .int x.2.2.2.2.2.2]))] := hD
  refine lv_aload_n hx hb dX2_begin_15 rfl (lv_at hl 0 rfl) ?_
  refine lv_iconst (v := 0) hx hb dX2_begin_16 (by decide) ?_
  refine va_put (D := D) (ci := 2) (v := .int 0) (ty := .int) (C := RX2) (T := TX2) (N := 7) hx hb hts hi_2 tyX2 tyX2_ok nmX2 hown hK hP hD hS 0 rfl rfl 3 (by decide) hf_21 (fun _ h9 => h9) rfl (by decide +kernel) rfl rfl (Nat.le_of_ble_eq_true rfl) dX2_begin_17 (fun H locs hP hD hS => ?_)
  have hP : va_P D vwCl [(co, .inr (2, [.int v, .int 0, .int 0, .int 0, .int (zb (x.2.2.2.2.1 = true)), .int (zb (x.2.2.2.2.2.1 = true)), .int x.2.2.2.2.2.2]))] H := hP
  have hD : va_D A [(co, .inr (2, [.int v, .int 0, .int 0, .int 0, .int (zb (x.2.2.2.2.1 = true)), .int (zb (x.2.2.2.2.2.1 = true)), .int x.2.2.2.2.2.2]))] := hD
  refine lv_aload_n hx hb dX2_begin_20 rfl (lv_at hl 0 rfl) ?_
  refine lv_iconst (v := 0) hx hb dX2_begin_21 (by decide) ?_
  refine va_put (D := D) (ci := 2) (v := .int 0) (ty := .boolean) (C := RX2) (T := TX2) (N := 7) hx hb hts hi_2 tyX2 tyX2_ok nmX2 hown hK hP hD hS 0 rfl rfl 4 (by decide) hf_24 (fun _ h9 => h9) rfl (by decide +kernel) rfl rfl (Nat.le_of_ble_eq_true rfl) dX2_begin_22 (fun H locs hP hD hS => ?_)
  have hP : va_P D vwCl [(co, .inr (2, [.int v, .int 0, .int 0, .int 0, .int 0, .int (zb (x.2.2.2.2.2.1 = true)), .int x.2.2.2.2.2.2]))] H := hP
  have hD : va_D A [(co, .inr (2, [.int v, .int 0, .int 0, .int 0, .int 0, .int (zb (x.2.2.2.2.2.1 = true)), .int x.2.2.2.2.2.2]))] := hD
  refine lv_aload_n hx hb dX2_begin_25 rfl (lv_at hl 0 rfl) ?_
  refine lv_iconst (v := 0) hx hb dX2_begin_26 (by decide) ?_
  refine va_put (D := D) (ci := 2) (v := .int 0) (ty := .boolean) (C := RX2) (T := TX2) (N := 7) hx hb hts hi_2 tyX2 tyX2_ok nmX2 hown hK hP hD hS 0 rfl rfl 5 (by decide) hf_28 (fun _ h9 => h9) rfl (by decide +kernel) rfl rfl (Nat.le_of_ble_eq_true rfl) dX2_begin_27 (fun H locs hP hD hS => ?_)
  have hP : va_P D vwCl [(co, .inr (2, [.int v, .int 0, .int 0, .int 0, .int 0, .int 0, .int x.2.2.2.2.2.2]))] H := hP
  have hD : va_D A [(co, .inr (2, [.int v, .int 0, .int 0, .int 0, .int 0, .int 0, .int x.2.2.2.2.2.2]))] := hD
  refine lv_aload_n hx hb dX2_begin_30 rfl (lv_at hl 0 rfl) ?_
  refine lv_iconst (v := 0) hx hb dX2_begin_31 (by decide) ?_
  refine va_put (D := D) (ci := 2) (v := .int 0) (ty := .int) (C := RX2) (T := TX2) (N := 7) hx hb hts hi_2 tyX2 tyX2_ok nmX2 hown hK hP hD hS 0 rfl rfl 6 (by decide) hf_31 (fun _ h9 => h9) rfl (by decide +kernel) rfl rfl (Nat.le_of_ble_eq_true rfl) dX2_begin_32 (fun H locs hP hD hS => ?_)
  have hP : va_P D vwCl [(co, .inr (2, [.int v, .int 0, .int 0, .int 0, .int 0, .int 0, .int 0]))] H := hP
  have hD : va_D A [(co, .inr (2, [.int v, .int 0, .int 0, .int 0, .int 0, .int 0, .int 0]))] := hD
  exact endMV () hx hb hr hlocks hA hQ hS hP dX2_begin_35 rfl trivial
def rmX2_ended : Room := { frames := 0, cells := 0, slots := 0, locals := 0 }
theorem kdX2_ended : yX2_ended.cls = RX2 ∧ yX2_ended.cls ≠ "java/lang/invoke/MethodHandle" ∧ yX2_ended.cls ≠ "java/lang/invoke/VarHandle" ∧ (parseMethodDescriptor yX2_ended.desc).map (fun d => d.parameters.length) = some 0 := ⟨rfl, by decide +kernel, by decide +kernel, by decide +kernel⟩
set_option maxRecDepth 100000 in
set_option maxHeartbeats 1000000 in
theorem kX2_ended (l : Launch) (D : va_G) (cI cJ : ClassId) (co : Nat) (x : Cs)  : Met l yX2_ended wsX2_ended rmX2_ended (rPre D cI cJ [.ref co] [(co, .inr (2, [.int x.1, .int x.2.1, .int (nI x.2.2.1), .int x.2.2.2.1, .int (zb (x.2.2.2.2.1 = true)), .int (zb (x.2.2.2.2.2.1 = true)), .int x.2.2.2.2.2.2]))]) (qRI (zb (x.2.2.2.2.2.1 = true ∨ x.2.2.2.2.1 = true))) 0 0 nA := by
  refine startR (cc := cX2_ended) (maxL := 1) (ret := (some .boolean)) (by decide) rfl (Nat.le_of_ble_eq_true rfl) ?_
  intro p e s m args below meth c ls Q hQ hx hb hr hlocks hml hown hts hK hN hP hl hin
  have hown : s.vm.findClass RX2 = some m.cls := hown
  have hi_2 : ∀ w ∈ wsX20, w ∈ wsX2_ended := by decide +kernel
  have hf_24 := hts (.fieldLink RX2 24 "FireNets$Course" "bad" "Z") (by decide +kernel)
  have hf_28 := hts (.fieldLink RX2 28 "FireNets$Course" "over" "Z") (by decide +kernel)
  have hS : va_S nA s.heap s.heap [] := va_S.rf
  have hl : lv_has ls 1 [(0, .ref co)] := hl
  have hP : va_P D vwCl [(co, .inr (2, [.int x.1, .int x.2.1, .int (nI x.2.2.1), .int x.2.2.2.1, .int (zb (x.2.2.2.2.1 = true)), .int (zb (x.2.2.2.2.2.1 = true)), .int x.2.2.2.2.2.2]))] s.heap := hP
  refine lv_aload_n hx hb dX2_ended_0 rfl (lv_at hl 0 rfl) ?_
  refine va_get (D := D) (ci := 2) (v := .int (zb (x.2.2.2.2.2.1 = true))) (C := RX2) (T := TX2) (N := 7) hx hb hts hi_2 hown hK hP 0 rfl rfl 5 (by decide) hf_28 (fun _ h9 => h9) rfl dX2_ended_1 ?_
  refine r_zne (tgt := 14) hx hb dX2_ended_4 (by decide) (fun c_4 => ?_) (fun c_4 => ?_)
  · refine lv_iconst (v := 1) hx hb dX2_ended_14 (by decide) ?_
    refine lv_goto (tgt := 19) hx hb dX2_ended_15 (by decide) ?_
    exact endRZ hx hb hr hlocks hQ hS dX2_ended_19 rfl (zb_t (Or.inl c_4))
  · refine lv_aload_n hx hb dX2_ended_7 rfl (lv_at hl 0 rfl) ?_
    refine va_get (D := D) (ci := 2) (v := .int (zb (x.2.2.2.2.1 = true))) (C := RX2) (T := TX2) (N := 7) hx hb hts hi_2 hown hK hP 0 rfl rfl 4 (by decide) hf_24 (fun _ h9 => h9) rfl dX2_ended_8 ?_
    refine r_zeq (tgt := 18) hx hb dX2_ended_11 (by decide) (fun c_11 => ?_) (fun c_11 => ?_)
    · refine lv_iconst (v := 0) hx hb dX2_ended_18 (by decide) ?_
      exact endRZ hx hb hr hlocks hQ hS dX2_ended_19 rfl (zb_f (fun h => h.elim c_4 c_11))
    · refine lv_iconst (v := 1) hx hb dX2_ended_14 (by decide) ?_
      refine lv_goto (tgt := 19) hx hb dX2_ended_15 (by decide) ?_
      exact endRZ hx hb hr hlocks hQ hS dX2_ended_19 rfl (zb_t (Or.inr c_11))
def rmX2_openTick : Room := { frames := 2, cells := 0, slots := 0, locals := 53 }
theorem kdX2_openTick : yX2_openTick.cls = RX2 ∧ yX2_openTick.cls ≠ "java/lang/invoke/MethodHandle" ∧ yX2_openTick.cls ≠ "java/lang/invoke/VarHandle" ∧ (parseMethodDescriptor yX2_openTick.desc).map (fun d => d.parameters.length) = some 1 := ⟨rfl, by decide +kernel, by decide +kernel, by decide +kernel⟩
set_option maxRecDepth 100000 in
set_option maxHeartbeats 1000000 in
theorem kX2_openTick (l : Launch) (D : va_G) (cI cJ : ClassId) (co pu ao : Nat) (x : Cs) (ke : Int32) (ow : Row) (ht : x.2.2.1 < 1000) : Met l yX2_openTick wsX2_openTick rmX2_openTick (mPre D cI cJ [.ref co, .ref pu] [(co, .inr (2, [.int x.1, .int x.2.1, .int (nI x.2.2.1), .int x.2.2.2.1, .int (zb (x.2.2.2.2.1 = true)), .int (zb (x.2.2.2.2.2.1 = true)), .int x.2.2.2.2.2.2])), (pu, .inr (4, [.ref ao, .int ke])), (ao, .inl (cI, 8, .inl ow))]) (mQv D (fun (_ : Unit) => True) (fun (_ : Unit) => [(co, .inr (2, [.int ((openC ow ke x).1), .int ((openC ow ke x).2.1), .int (nI ((openC ow ke x).2.2.1)), .int ((openC ow ke x).2.2.2.1), .int (zb ((openC ow ke x).2.2.2.2.1 = true)), .int (zb ((openC ow ke x).2.2.2.2.2.1 = true)), .int ((openC ow ke x).2.2.2.2.2.2)])), (pu, .inr (4, [.ref ao, .int ke])), (ao, .inl (cI, 8, .inl ow))]) [(co, .inr (2, [.int x.1, .int x.2.1, .int (nI x.2.2.1), .int x.2.2.2.1, .int (zb (x.2.2.2.2.1 = true)), .int (zb (x.2.2.2.2.2.1 = true)), .int x.2.2.2.2.2.2])), (pu, .inr (4, [.ref ao, .int ke])), (ao, .inl (cI, 8, .inl ow))]) 0 0 (mA [(co, .inr (2, [.int x.1, .int x.2.1, .int (nI x.2.2.1), .int x.2.2.2.1, .int (zb (x.2.2.2.2.1 = true)), .int (zb (x.2.2.2.2.2.1 = true)), .int x.2.2.2.2.2.2])), (pu, .inr (4, [.ref ao, .int ke])), (ao, .inl (cI, 8, .inl ow))]) := by
  refine startM (cc := cX2_openTick) (maxL := 2) (ret := none) (by decide) rfl (Nat.le_of_ble_eq_true rfl) ?_
  intro p e s m args below meth c ls Q A hA hQ hx hb hr hlocks hml hown hts hK hN hP hD hl hin
  have hown : s.vm.findClass RX2 = some m.cls := hown
  have hi_2 : ∀ w ∈ wsX20, w ∈ wsX2_openTick := by decide +kernel
  have hf_18 := hts (.fieldLink RX2 18 "FireNets$Course" "tick" "I") (by decide +kernel)
  have hf_31 := hts (.fieldLink RX2 31 "FireNets$Course" "money" "I") (by decide +kernel)
  have hS : va_S A s.heap s.heap [] := va_S.rf
  have hl : lv_has ls 2 [(0, .ref co), (1, .ref pu)] := hl
  have hP : va_P D vwCl [(co, .inr (2, [.int x.1, .int x.2.1, .int (nI x.2.2.1), .int x.2.2.2.1, .int (zb (x.2.2.2.2.1 = true)), .int (zb (x.2.2.2.2.2.1 = true)), .int x.2.2.2.2.2.2])), (pu, .inr (4, [.ref ao, .int ke])), (ao, .inl (cI, 8, .inl ow))] s.heap := hP
  refine lv_aload_n hx hb dX2_openTick_0 rfl (lv_at hl 0 rfl) ?_
  refine lv_dup hx hb dX2_openTick_1 rfl ?_
  refine va_get (D := D) (ci := 2) (v := .int (nI x.2.2.1)) (C := RX2) (T := TX2) (N := 7) hx hb hts hi_2 hown hK hP 0 rfl rfl 2 (by decide) hf_18 (fun _ h9 => h9) rfl dX2_openTick_2 ?_
  refine lv_iconst (v := 1) hx hb dX2_openTick_5 (by decide) ?_
  refine lv_iadd hx hb dX2_openTick_6 ?_
  refine r_top (x' := nI (x.2.2.1 + 1)) (nI_add x.2.2.1 1) ?_
  refine va_put (D := D) (ci := 2) (v := .int (nI (x.2.2.1 + 1))) (ty := .int) (C := RX2) (T := TX2) (N := 7) hx hb hts hi_2 tyX2 tyX2_ok nmX2 hown hK hP hD hS 0 rfl rfl 2 (by decide) hf_18 (fun _ h9 => h9) rfl (by decide +kernel) rfl rfl (Nat.le_of_ble_eq_true rfl) dX2_openTick_7 (fun H locs hP hD hS => ?_)
  have hP : va_P D vwCl [(co, .inr (2, [.int x.1, .int x.2.1, .int (nI (x.2.2.1 + 1)), .int x.2.2.2.1, .int (zb (x.2.2.2.2.1 = true)), .int (zb (x.2.2.2.2.2.1 = true)), .int x.2.2.2.2.2.2])), (pu, .inr (4, [.ref ao, .int ke])), (ao, .inl (cI, 8, .inl ow))] H := hP
  have hD : va_D A [(co, .inr (2, [.int x.1, .int x.2.1, .int (nI (x.2.2.1 + 1)), .int x.2.2.2.1, .int (zb (x.2.2.2.2.1 = true)), .int (zb (x.2.2.2.2.2.1 = true)), .int x.2.2.2.2.2.2])), (pu, .inr (4, [.ref ao, .int ke])), (ao, .inl (cI, 8, .inl ow))] := hD
  refine lv_aload_n hx hb dX2_openTick_10 rfl (lv_at hl 0 rfl) ?_
  refine lv_aload_n hx hb dX2_openTick_11 rfl (lv_at hl 1 rfl) ?_
  refine lv_aload_n hx hb dX2_openTick_12 rfl (lv_at hl 0 rfl) ?_
  refine va_get (D := D) (ci := 2) (v := .int (nI (x.2.2.1 + 1))) (C := RX2) (T := TX2) (N := 7) hx hb hts hi_2 hown hK hP 0 rfl rfl 2 (by decide) hf_18 (fun _ h9 => h9) rfl dX2_openTick_13 ?_
  refine lv_aload_n hx hb dX2_openTick_16 rfl (lv_at hl 0 rfl) ?_
  refine va_get (D := D) (ci := 2) (v := .int x.2.2.2.2.2.2) (C := RX2) (T := TX2) (N := 7) hx hb hts hi_2 hown hK hP 0 rfl rfl 6 (by decide) hf_31 (fun _ h9 => h9) rfl dX2_openTick_17 ?_
  refine goRI hP hS (va_runV (As := [.int (nI (x.2.2.1 + 1)), .int x.2.2.2.2.2.2]) (rest := [.ref co]) ⟨hx, hb, hml, hown, hts⟩ (kX4_money l D cI cJ pu ao (x.2.2.1 + 1) ke x.2.2.2.2.2.2 ow (by omega) (by omega)) (cwV 2 hts gX2_openTick_X4_money rfl rfl rfl kdX4_money ⟨Nat.le_of_ble_eq_true rfl, Nat.le_of_ble_eq_true rfl⟩) (preRV hK hN hP 1 (ci := 4) rfl rfl rfl [1, 2] rfl) rfl rfl hl.1 rfl (lv_room (Nat.le_of_ble_eq_true rfl)) dX2_openTick_20 ⟨Nat.zero_le _, Nat.zero_le _⟩) (fun H locs hP hS => ?_)
  refine va_put (D := D) (ci := 2) (v := .int (moneyI ow ke (x.2.2.1 + 1) x.2.2.2.2.2.2)) (ty := .int) (C := RX2) (T := TX2) (N := 7) hx hb hts hi_2 tyX2 tyX2_ok nmX2 hown hK hP hD hS 0 rfl rfl 6 (by decide) hf_31 (fun _ h9 => h9) rfl (by decide +kernel) rfl rfl (Nat.le_of_ble_eq_true rfl) dX2_openTick_23 (fun H locs hP hD hS => ?_)
  have hP : va_P D vwCl [(co, .inr (2, [.int x.1, .int x.2.1, .int (nI (x.2.2.1 + 1)), .int x.2.2.2.1, .int (zb (x.2.2.2.2.1 = true)), .int (zb (x.2.2.2.2.2.1 = true)), .int (moneyI ow ke (x.2.2.1 + 1) x.2.2.2.2.2.2)])), (pu, .inr (4, [.ref ao, .int ke])), (ao, .inl (cI, 8, .inl ow))] H := hP
  have hD : va_D A [(co, .inr (2, [.int x.1, .int x.2.1, .int (nI (x.2.2.1 + 1)), .int x.2.2.2.1, .int (zb (x.2.2.2.2.1 = true)), .int (zb (x.2.2.2.2.2.1 = true)), .int (moneyI ow ke (x.2.2.1 + 1) x.2.2.2.2.2.2)])), (pu, .inr (4, [.ref ao, .int ke])), (ao, .inl (cI, 8, .inl ow))] := hD
  exact endMV () hx hb hr hlocks hA hQ hS hP dX2_openTick_26 rfl trivial
def rmX2_pay : Room := { frames := 0, cells := 0, slots := 0, locals := 0 }
theorem kdX2_pay : yX2_pay.cls = RX2 ∧ yX2_pay.cls ≠ "java/lang/invoke/MethodHandle" ∧ yX2_pay.cls ≠ "java/lang/invoke/VarHandle" ∧ (parseMethodDescriptor yX2_pay.desc).map (fun d => d.parameters.length) = some 2 := ⟨rfl, by decide +kernel, by decide +kernel, by decide +kernel⟩
set_option maxRecDepth 100000 in
set_option maxHeartbeats 1000000 in
theorem kX2_pay (l : Launch) (D : va_G) (cI cJ : ClassId) (co : Nat) (x : Cs) (v q : Int32)  : Met l yX2_pay wsX2_pay rmX2_pay (mPre D cI cJ [.ref co, .int v, .int q] [(co, .inr (2, [.int x.1, .int x.2.1, .int (nI x.2.2.1), .int x.2.2.2.1, .int (zb (x.2.2.2.2.1 = true)), .int (zb (x.2.2.2.2.2.1 = true)), .int x.2.2.2.2.2.2]))]) (mQv D (fun (_ : Unit) => True) (fun (_ : Unit) => [(co, .inr (2, [.int ((payC v q x).1), .int ((payC v q x).2.1), .int (nI ((payC v q x).2.2.1)), .int ((payC v q x).2.2.2.1), .int (zb ((payC v q x).2.2.2.2.1 = true)), .int (zb ((payC v q x).2.2.2.2.2.1 = true)), .int ((payC v q x).2.2.2.2.2.2)]))]) [(co, .inr (2, [.int x.1, .int x.2.1, .int (nI x.2.2.1), .int x.2.2.2.1, .int (zb (x.2.2.2.2.1 = true)), .int (zb (x.2.2.2.2.2.1 = true)), .int x.2.2.2.2.2.2]))]) 0 0 (mA [(co, .inr (2, [.int x.1, .int x.2.1, .int (nI x.2.2.1), .int x.2.2.2.1, .int (zb (x.2.2.2.2.1 = true)), .int (zb (x.2.2.2.2.2.1 = true)), .int x.2.2.2.2.2.2]))]) := by
  refine startM (cc := cX2_pay) (maxL := 3) (ret := none) (by decide) rfl (Nat.le_of_ble_eq_true rfl) ?_
  intro p e s m args below meth c ls Q A hA hQ hx hb hr hlocks hml hown hts hK hN hP hD hl hin
  have hown : s.vm.findClass RX2 = some m.cls := hown
  have hi_2 : ∀ w ∈ wsX20, w ∈ wsX2_pay := by decide +kernel
  have hf_15 := hts (.fieldLink RX2 15 "FireNets$Course" "guards" "I") (by decide +kernel)
  have hf_21 := hts (.fieldLink RX2 21 "FireNets$Course" "cost" "I") (by decide +kernel)
  have hf_31 := hts (.fieldLink RX2 31 "FireNets$Course" "money" "I") (by decide +kernel)
  have hS : va_S A s.heap s.heap [] := va_S.rf
  have hl : lv_has ls 3 [(0, .ref co), (1, .int v), (2, .int q)] := hl
  have hP : va_P D vwCl [(co, .inr (2, [.int x.1, .int x.2.1, .int (nI x.2.2.1), .int x.2.2.2.1, .int (zb (x.2.2.2.2.1 = true)), .int (zb (x.2.2.2.2.2.1 = true)), .int x.2.2.2.2.2.2]))] s.heap := hP
  refine lv_aload_n hx hb dX2_pay_0 rfl (lv_at hl 0 rfl) ?_
  refine lv_dup hx hb dX2_pay_1 rfl ?_
  refine va_get (D := D) (ci := 2) (v := .int x.2.1) (C := RX2) (T := TX2) (N := 7) hx hb hts hi_2 hown hK hP 0 rfl rfl 1 (by decide) hf_15 (fun _ h9 => h9) rfl dX2_pay_2 ?_
  refine lv_iload_n hx hb dX2_pay_5 rfl (lv_at hl 1 rfl) ?_
  refine lv_ior hx hb dX2_pay_6 ?_
  refine va_put (D := D) (ci := 2) (v := .int (x.2.1 ||| v)) (ty := .int) (C := RX2) (T := TX2) (N := 7) hx hb hts hi_2 tyX2 tyX2_ok nmX2 hown hK hP hD hS 0 rfl rfl 1 (by decide) hf_15 (fun _ h9 => h9) rfl (by decide +kernel) rfl rfl (Nat.le_of_ble_eq_true rfl) dX2_pay_7 (fun H locs hP hD hS => ?_)
  have hP : va_P D vwCl [(co, .inr (2, [.int x.1, .int (x.2.1 ||| v), .int (nI x.2.2.1), .int x.2.2.2.1, .int (zb (x.2.2.2.2.1 = true)), .int (zb (x.2.2.2.2.2.1 = true)), .int x.2.2.2.2.2.2]))] H := hP
  have hD : va_D A [(co, .inr (2, [.int x.1, .int (x.2.1 ||| v), .int (nI x.2.2.1), .int x.2.2.2.1, .int (zb (x.2.2.2.2.1 = true)), .int (zb (x.2.2.2.2.2.1 = true)), .int x.2.2.2.2.2.2]))] := hD
  refine lv_aload_n hx hb dX2_pay_10 rfl (lv_at hl 0 rfl) ?_
  refine lv_dup hx hb dX2_pay_11 rfl ?_
  refine va_get (D := D) (ci := 2) (v := .int x.2.2.2.2.2.2) (C := RX2) (T := TX2) (N := 7) hx hb hts hi_2 hown hK hP 0 rfl rfl 6 (by decide) hf_31 (fun _ h9 => h9) rfl dX2_pay_12 ?_
  refine lv_iload_n hx hb dX2_pay_15 rfl (lv_at hl 2 rfl) ?_
  refine lv_isub hx hb dX2_pay_16 ?_
  refine va_put (D := D) (ci := 2) (v := .int (x.2.2.2.2.2.2 - q)) (ty := .int) (C := RX2) (T := TX2) (N := 7) hx hb hts hi_2 tyX2 tyX2_ok nmX2 hown hK hP hD hS 0 rfl rfl 6 (by decide) hf_31 (fun _ h9 => h9) rfl (by decide +kernel) rfl rfl (Nat.le_of_ble_eq_true rfl) dX2_pay_17 (fun H locs hP hD hS => ?_)
  have hP : va_P D vwCl [(co, .inr (2, [.int x.1, .int (x.2.1 ||| v), .int (nI x.2.2.1), .int x.2.2.2.1, .int (zb (x.2.2.2.2.1 = true)), .int (zb (x.2.2.2.2.2.1 = true)), .int (x.2.2.2.2.2.2 - q)]))] H := hP
  have hD : va_D A [(co, .inr (2, [.int x.1, .int (x.2.1 ||| v), .int (nI x.2.2.1), .int x.2.2.2.1, .int (zb (x.2.2.2.2.1 = true)), .int (zb (x.2.2.2.2.2.1 = true)), .int (x.2.2.2.2.2.2 - q)]))] := hD
  refine lv_aload_n hx hb dX2_pay_20 rfl (lv_at hl 0 rfl) ?_
  refine lv_dup hx hb dX2_pay_21 rfl ?_
  refine va_get (D := D) (ci := 2) (v := .int x.2.2.2.1) (C := RX2) (T := TX2) (N := 7) hx hb hts hi_2 hown hK hP 0 rfl rfl 3 (by decide) hf_21 (fun _ h9 => h9) rfl dX2_pay_22 ?_
  refine lv_iload_n hx hb dX2_pay_25 rfl (lv_at hl 2 rfl) ?_
  refine lv_iadd hx hb dX2_pay_26 ?_
  refine va_put (D := D) (ci := 2) (v := .int (x.2.2.2.1 + q)) (ty := .int) (C := RX2) (T := TX2) (N := 7) hx hb hts hi_2 tyX2 tyX2_ok nmX2 hown hK hP hD hS 0 rfl rfl 3 (by decide) hf_21 (fun _ h9 => h9) rfl (by decide +kernel) rfl rfl (Nat.le_of_ble_eq_true rfl) dX2_pay_27 (fun H locs hP hD hS => ?_)
  have hP : va_P D vwCl [(co, .inr (2, [.int x.1, .int (x.2.1 ||| v), .int (nI x.2.2.1), .int (x.2.2.2.1 + q), .int (zb (x.2.2.2.2.1 = true)), .int (zb (x.2.2.2.2.2.1 = true)), .int (x.2.2.2.2.2.2 - q)]))] H := hP
  have hD : va_D A [(co, .inr (2, [.int x.1, .int (x.2.1 ||| v), .int (nI x.2.2.1), .int (x.2.2.2.1 + q), .int (zb (x.2.2.2.2.1 = true)), .int (zb (x.2.2.2.2.2.1 = true)), .int (x.2.2.2.2.2.2 - q)]))] := hD
  exact endMV () hx hb hr hlocks hA hQ hS hP dX2_pay_30 rfl trivial
def rmX2_putSet : Room := { frames := 3, cells := 0, slots := 0, locals := 69 }
theorem kdX2_putSet : yX2_putSet.cls = RX2 ∧ yX2_putSet.cls ≠ "java/lang/invoke/MethodHandle" ∧ yX2_putSet.cls ≠ "java/lang/invoke/VarHandle" ∧ (parseMethodDescriptor yX2_putSet.desc).map (fun d => d.parameters.length) = some 2 := ⟨rfl, by decide +kernel, by decide +kernel, by decide +kernel⟩
set_option maxRecDepth 100000 in
set_option maxHeartbeats 1000000 in
theorem kX2_putSet (l : Launch) (D : va_G) (cI cJ : ClassId) (co nt aw ap an ae nn mm : Nat) (x : Cs) (pr : Row) (v : Int32)  : Met l yX2_putSet wsX2_putSet rmX2_putSet (mPre D cI cJ [.ref co, .ref nt, .int v] [(co, .inr (2, [.int x.1, .int x.2.1, .int (nI x.2.2.1), .int x.2.2.2.1, .int (zb (x.2.2.2.2.1 = true)), .int (zb (x.2.2.2.2.2.1 = true)), .int x.2.2.2.2.2.2])), (nt, .inr (3, [.int (nI nn), .int (nI mm), .ref aw, .ref ap, .ref an, .ref ae])), (ap, .inl (cI, 10, .inl pr))]) (mQv D (fun (_ : Unit) => True) (fun (_ : Unit) => [(co, .inr (2, [.int ((putSetC (nI nn) pr v x).1), .int ((putSetC (nI nn) pr v x).2.1), .int (nI ((putSetC (nI nn) pr v x).2.2.1)), .int ((putSetC (nI nn) pr v x).2.2.2.1), .int (zb ((putSetC (nI nn) pr v x).2.2.2.2.1 = true)), .int (zb ((putSetC (nI nn) pr v x).2.2.2.2.2.1 = true)), .int ((putSetC (nI nn) pr v x).2.2.2.2.2.2)])), (nt, .inr (3, [.int (nI nn), .int (nI mm), .ref aw, .ref ap, .ref an, .ref ae])), (ap, .inl (cI, 10, .inl pr))]) [(co, .inr (2, [.int x.1, .int x.2.1, .int (nI x.2.2.1), .int x.2.2.2.1, .int (zb (x.2.2.2.2.1 = true)), .int (zb (x.2.2.2.2.2.1 = true)), .int x.2.2.2.2.2.2])), (nt, .inr (3, [.int (nI nn), .int (nI mm), .ref aw, .ref ap, .ref an, .ref ae])), (ap, .inl (cI, 10, .inl pr))]) 0 0 (mA [(co, .inr (2, [.int x.1, .int x.2.1, .int (nI x.2.2.1), .int x.2.2.2.1, .int (zb (x.2.2.2.2.1 = true)), .int (zb (x.2.2.2.2.2.1 = true)), .int x.2.2.2.2.2.2])), (nt, .inr (3, [.int (nI nn), .int (nI mm), .ref aw, .ref ap, .ref an, .ref ae])), (ap, .inl (cI, 10, .inl pr))]) := by
  refine startM (cc := cX2_putSet) (maxL := 3) (ret := none) (by decide) rfl (Nat.le_of_ble_eq_true rfl) ?_
  intro p e s m args below meth c ls Q A hA hQ hx hb hr hlocks hml hown hts hK hN hP hD hl hin
  have hown : s.vm.findClass RX2 = some m.cls := hown
  have hi_2 : ∀ w ∈ wsX20, w ∈ wsX2_putSet := by decide +kernel
  have hf_9 := hts (.fieldLink RX2 9 "FireNets$Course" "burning" "I") (by decide +kernel)
  have hf_15 := hts (.fieldLink RX2 15 "FireNets$Course" "guards" "I") (by decide +kernel)
  have hf_24 := hts (.fieldLink RX2 24 "FireNets$Course" "bad" "Z") (by decide +kernel)
  have hf_31 := hts (.fieldLink RX2 31 "FireNets$Course" "money" "I") (by decide +kernel)
  have hS : va_S A s.heap s.heap [] := va_S.rf
  have hl : lv_has ls 3 [(0, .ref co), (1, .ref nt), (2, .int v)] := hl
  have hP : va_P D vwCl [(co, .inr (2, [.int x.1, .int x.2.1, .int (nI x.2.2.1), .int x.2.2.2.1, .int (zb (x.2.2.2.2.1 = true)), .int (zb (x.2.2.2.2.2.1 = true)), .int x.2.2.2.2.2.2])), (nt, .inr (3, [.int (nI nn), .int (nI mm), .ref aw, .ref ap, .ref an, .ref ae])), (ap, .inl (cI, 10, .inl pr))] s.heap := hP
  refine lv_aload_n hx hb dX2_putSet_0 rfl (lv_at hl 1 rfl) ?_
  refine lv_iload_n hx hb dX2_putSet_1 rfl (lv_at hl 2 rfl) ?_
  refine lv_aload_n hx hb dX2_putSet_2 rfl (lv_at hl 0 rfl) ?_
  refine va_get (D := D) (ci := 2) (v := .int x.1) (C := RX2) (T := TX2) (N := 7) hx hb hts hi_2 hown hK hP 0 rfl rfl 0 (by decide) hf_9 (fun _ h9 => h9) rfl dX2_putSet_3 ?_
  refine lv_aload_n hx hb dX2_putSet_6 rfl (lv_at hl 0 rfl) ?_
  refine va_get (D := D) (ci := 2) (v := .int x.2.1) (C := RX2) (T := TX2) (N := 7) hx hb hts hi_2 hown hK hP 0 rfl rfl 1 (by decide) hf_15 (fun _ h9 => h9) rfl dX2_putSet_7 ?_
  refine lv_aload_n hx hb dX2_putSet_10 rfl (lv_at hl 0 rfl) ?_
  refine va_get (D := D) (ci := 2) (v := .int x.2.2.2.2.2.2) (C := RX2) (T := TX2) (N := 7) hx hb hts hi_2 hown hK hP 0 rfl rfl 6 (by decide) hf_31 (fun _ h9 => h9) rfl dX2_putSet_11 ?_
  refine goRI hP hS (va_runV (As := [.int v, .int x.1, .int x.2.1, .int x.2.2.2.2.2.2]) (rest := []) ⟨hx, hb, hml, hown, hts⟩ (kX3_isLawful l D cI cJ nt aw ap an ae nn mm pr v x.1 x.2.1 x.2.2.2.2.2.2) (cwV 4 hts gX2_putSet_X3_isLawful rfl rfl rfl kdX3_isLawful ⟨Nat.le_of_ble_eq_true rfl, Nat.le_of_ble_eq_true rfl⟩) (preRV hK hN hP 1 (ci := 3) rfl rfl rfl [1, 2] rfl) rfl rfl hl.1 rfl (lv_room (Nat.le_of_ble_eq_true rfl)) dX2_putSet_14 ⟨Nat.zero_le _, Nat.zero_le _⟩) (fun H locs hP hS => ?_)
  refine r_zne (tgt := 26) hx hb dX2_putSet_17 (by decide) (fun c_17 => ?_) (fun c_17 => ?_)
  · refine lv_aload_n hx hb dX2_putSet_26 rfl (lv_at hl 0 rfl) ?_
    refine lv_iload_n hx hb dX2_putSet_27 rfl (lv_at hl 2 rfl) ?_
    refine lv_aload_n hx hb dX2_putSet_28 rfl (lv_at hl 1 rfl) ?_
    refine lv_iload_n hx hb dX2_putSet_29 rfl (lv_at hl 2 rfl) ?_
    refine goRI hP hS (va_runV (As := [.int v]) (rest := [.int v, .ref co]) ⟨hx, hb, hml, hown, hts⟩ (kX3_priceOf l D cI cJ nt aw ap an ae nn mm pr v) (cwV 1 hts gX2_putSet_X3_priceOf rfl rfl rfl kdX3_priceOf ⟨Nat.le_of_ble_eq_true rfl, Nat.le_of_ble_eq_true rfl⟩) (preRV hK hN hP 1 (ci := 3) rfl rfl rfl [1, 2] rfl) rfl rfl hl.1 rfl (lv_room (Nat.le_of_ble_eq_true rfl)) dX2_putSet_30 ⟨Nat.zero_le _, Nat.zero_le _⟩) (fun H locs hP hS => ?_)
    refine goMV hP hD hS (va_runV (As := [.int v, .int (sumI pr v 10)]) (rest := []) ⟨hx, hb, hml, hown, hts⟩ (kX2_pay l D cI cJ co x v (sumI pr v 10)) (cwV 2 hts gX2_putSet_X2_pay rfl rfl rfl kdX2_pay ⟨Nat.le_of_ble_eq_true rfl, Nat.le_of_ble_eq_true rfl⟩) (preMV hK hN hP hD 0 (ci := 2) rfl rfl rfl [0] rfl (by decide)) rfl rfl hl.1 rfl (lv_room (Nat.le_of_ble_eq_true rfl)) dX2_putSet_33 ⟨Nat.zero_le _, Nat.zero_le _⟩) [0] rfl (by decide) (fun _ => (show ([co] : List Nat) = [co] from rfl)) (fun _ H locs hp_33 hP hD hS => ?_)
    have hP : va_P D vwCl [(co, .inr (2, [.int ((payC v (sumI pr v 10) x).1), .int ((payC v (sumI pr v 10) x).2.1), .int (nI ((payC v (sumI pr v 10) x).2.2.1)), .int ((payC v (sumI pr v 10) x).2.2.2.1), .int (zb ((payC v (sumI pr v 10) x).2.2.2.2.1 = true)), .int (zb ((payC v (sumI pr v 10) x).2.2.2.2.2.1 = true)), .int ((payC v (sumI pr v 10) x).2.2.2.2.2.2)])), (nt, .inr (3, [.int (nI nn), .int (nI mm), .ref aw, .ref ap, .ref an, .ref ae])), (ap, .inl (cI, 10, .inl pr))] H := hP
    have hD : va_D A [(co, .inr (2, [.int ((payC v (sumI pr v 10) x).1), .int ((payC v (sumI pr v 10) x).2.1), .int (nI ((payC v (sumI pr v 10) x).2.2.1)), .int ((payC v (sumI pr v 10) x).2.2.2.1), .int (zb ((payC v (sumI pr v 10) x).2.2.2.2.1 = true)), .int (zb ((payC v (sumI pr v 10) x).2.2.2.2.2.1 = true)), .int ((payC v (sumI pr v 10) x).2.2.2.2.2.2)])), (nt, .inr (3, [.int (nI nn), .int (nI mm), .ref aw, .ref ap, .ref an, .ref ae])), (ap, .inl (cI, 10, .inl pr))] := hD
    exact endMV () hx hb hr hlocks hA hQ hS hP dX2_putSet_36 (by rw [putSetC, if_pos c_17]) trivial
  · refine lv_aload_n hx hb dX2_putSet_20 rfl (lv_at hl 0 rfl) ?_
    refine lv_iconst (v := 1) hx hb dX2_putSet_21 (by decide) ?_
    refine va_put (D := D) (ci := 2) (v := .int 1) (ty := .boolean) (C := RX2) (T := TX2) (N := 7) hx hb hts hi_2 tyX2 tyX2_ok nmX2 hown hK hP hD hS 0 rfl rfl 4 (by decide) hf_24 (fun _ h9 => h9) rfl (by decide +kernel) rfl rfl (Nat.le_of_ble_eq_true rfl) dX2_putSet_22 (fun H locs hP hD hS => ?_)
    have hP : va_P D vwCl [(co, .inr (2, [.int x.1, .int x.2.1, .int (nI x.2.2.1), .int x.2.2.2.1, .int 1, .int (zb (x.2.2.2.2.2.1 = true)), .int x.2.2.2.2.2.2])), (nt, .inr (3, [.int (nI nn), .int (nI mm), .ref aw, .ref ap, .ref an, .ref ae])), (ap, .inl (cI, 10, .inl pr))] H := hP
    have hD : va_D A [(co, .inr (2, [.int x.1, .int x.2.1, .int (nI x.2.2.1), .int x.2.2.2.1, .int 1, .int (zb (x.2.2.2.2.2.1 = true)), .int x.2.2.2.2.2.2])), (nt, .inr (3, [.int (nI nn), .int (nI mm), .ref aw, .ref ap, .ref an, .ref ae])), (ap, .inl (cI, 10, .inl pr))] := hD
    exact endMV () hx hb hr hlocks hA hQ hS hP dX2_putSet_25 (by rw [putSetC, if_neg c_17]; rfl) trivial
def rmX2_putByRule : Room := { frames := 3, cells := 0, slots := 0, locals := 74 }
theorem kdX2_putByRule : yX2_putByRule.cls = RX2 ∧ yX2_putByRule.cls ≠ "java/lang/invoke/MethodHandle" ∧ yX2_putByRule.cls ≠ "java/lang/invoke/VarHandle" ∧ (parseMethodDescriptor yX2_putByRule.desc).map (fun d => d.parameters.length) = some 2 := ⟨rfl, by decide +kernel, by decide +kernel, by decide +kernel⟩
set_option maxRecDepth 100000 in
set_option maxHeartbeats 1000000 in
theorem kX2_putByRule (l : Launch) (D : va_G) (cI cJ : ClassId) (co nt aw ap an ae nn mm : Nat) (x : Cs) (wo pr ne : Row) (ru : Int32)  : Met l yX2_putByRule wsX2_putByRule rmX2_putByRule (mPre D cI cJ [.ref co, .ref nt, .int ru] [(co, .inr (2, [.int x.1, .int x.2.1, .int (nI x.2.2.1), .int x.2.2.2.1, .int (zb (x.2.2.2.2.1 = true)), .int (zb (x.2.2.2.2.2.1 = true)), .int x.2.2.2.2.2.2])), (nt, .inr (3, [.int (nI nn), .int (nI mm), .ref aw, .ref ap, .ref an, .ref ae])), (aw, .inl (cI, 10, .inl wo)), (ap, .inl (cI, 10, .inl pr)), (an, .inl (cI, 10, .inl ne))]) (mQv D (fun (_ : Unit) => True) (fun (_ : Unit) => [(co, .inr (2, [.int ((ruleA wo ne pr ru x 10).1), .int ((ruleA wo ne pr ru x 10).2.1), .int (nI ((ruleA wo ne pr ru x 10).2.2.1)), .int ((ruleA wo ne pr ru x 10).2.2.2.1), .int (zb ((ruleA wo ne pr ru x 10).2.2.2.2.1 = true)), .int (zb ((ruleA wo ne pr ru x 10).2.2.2.2.2.1 = true)), .int ((ruleA wo ne pr ru x 10).2.2.2.2.2.2)])), (nt, .inr (3, [.int (nI nn), .int (nI mm), .ref aw, .ref ap, .ref an, .ref ae])), (aw, .inl (cI, 10, .inl wo)), (ap, .inl (cI, 10, .inl pr)), (an, .inl (cI, 10, .inl ne))]) [(co, .inr (2, [.int x.1, .int x.2.1, .int (nI x.2.2.1), .int x.2.2.2.1, .int (zb (x.2.2.2.2.1 = true)), .int (zb (x.2.2.2.2.2.1 = true)), .int x.2.2.2.2.2.2])), (nt, .inr (3, [.int (nI nn), .int (nI mm), .ref aw, .ref ap, .ref an, .ref ae])), (aw, .inl (cI, 10, .inl wo)), (ap, .inl (cI, 10, .inl pr)), (an, .inl (cI, 10, .inl ne))]) 0 0 (mA [(co, .inr (2, [.int x.1, .int x.2.1, .int (nI x.2.2.1), .int x.2.2.2.1, .int (zb (x.2.2.2.2.1 = true)), .int (zb (x.2.2.2.2.2.1 = true)), .int x.2.2.2.2.2.2])), (nt, .inr (3, [.int (nI nn), .int (nI mm), .ref aw, .ref ap, .ref an, .ref ae])), (aw, .inl (cI, 10, .inl wo)), (ap, .inl (cI, 10, .inl pr)), (an, .inl (cI, 10, .inl ne))]) := by
  refine startM (cc := cX2_putByRule) (maxL := 5) (ret := none) (by decide) rfl (Nat.le_of_ble_eq_true rfl) ?_
  intro p e s m args below meth c ls Q A hA hQ hx hb hr hlocks hml hown hts hK hN hP hD hl hin
  have hown : s.vm.findClass RX2 = some m.cls := hown
  have hi_2 : ∀ w ∈ wsX20, w ∈ wsX2_putByRule := by decide +kernel
  have hf_9 := hts (.fieldLink RX2 9 "FireNets$Course" "burning" "I") (by decide +kernel)
  have hf_15 := hts (.fieldLink RX2 15 "FireNets$Course" "guards" "I") (by decide +kernel)
  have hf_31 := hts (.fieldLink RX2 31 "FireNets$Course" "money" "I") (by decide +kernel)
  have hS : va_S A s.heap s.heap [] := va_S.rf
  have hl : lv_has ls 5 [(0, .ref co), (1, .ref nt), (2, .int ru)] := hl
  have hP : va_P D vwCl [(co, .inr (2, [.int x.1, .int x.2.1, .int (nI x.2.2.1), .int x.2.2.2.1, .int (zb (x.2.2.2.2.1 = true)), .int (zb (x.2.2.2.2.2.1 = true)), .int x.2.2.2.2.2.2])), (nt, .inr (3, [.int (nI nn), .int (nI mm), .ref aw, .ref ap, .ref an, .ref ae])), (aw, .inl (cI, 10, .inl wo)), (ap, .inl (cI, 10, .inl pr)), (an, .inl (cI, 10, .inl ne))] s.heap := hP
  refine lv_iconst (v := 0) hx hb dX2_putByRule_0 (by decide) ?_
  refine lv_istore_n (lv' := [(3, .int 0), (0, .ref co), (1, .ref nt), (2, .int ru)]) hx hb dX2_putByRule_1 rfl hl (by decide) rfl (fun ls hl => ?_)
  have lp : ∀ (fu : Nat) (k : Nat), (k ≤ 10) → 10 - k < fu → ∀ (ls : Array Slot) (H : Heap) (locs : List Loc), lv_has ls 5 [(0, .ref co), (1, .ref nt), (2, .int ru), (3, .int (nI k))] → va_P D vwCl [(co, .inr (2, [.int ((ruleA wo ne pr ru x k).1), .int ((ruleA wo ne pr ru x k).2.1), .int (nI ((ruleA wo ne pr ru x k).2.2.1)), .int ((ruleA wo ne pr ru x k).2.2.2.1), .int (zb ((ruleA wo ne pr ru x k).2.2.2.2.1 = true)), .int (zb ((ruleA wo ne pr ru x k).2.2.2.2.2.1 = true)), .int ((ruleA wo ne pr ru x k).2.2.2.2.2.2)])), (nt, .inr (3, [.int (nI nn), .int (nI mm), .ref aw, .ref ap, .ref an, .ref ae])), (aw, .inl (cI, 10, .inl wo)), (ap, .inl (cI, 10, .inl pr)), (an, .inl (cI, 10, .inl ne))] H → va_D A [(co, .inr (2, [.int ((ruleA wo ne pr ru x k).1), .int ((ruleA wo ne pr ru x k).2.1), .int (nI ((ruleA wo ne pr ru x k).2.2.1)), .int ((ruleA wo ne pr ru x k).2.2.2.1), .int (zb ((ruleA wo ne pr ru x k).2.2.2.2.1 = true)), .int (zb ((ruleA wo ne pr ru x k).2.2.2.2.2.1 = true)), .int ((ruleA wo ne pr ru x k).2.2.2.2.2.2)])), (nt, .inr (3, [.int (nI nn), .int (nI mm), .ref aw, .ref ap, .ref an, .ref ae])), (aw, .inl (cI, 10, .inl wo)), (ap, .inl (cI, 10, .inl pr)), (an, .inl (cI, 10, .inl ne))] → va_S A s.heap H locs → W p l e rmX2_putByRule s m args below meth c H locs 0 0 Q (F0 m 2 ls []) := by
    intro fu
    induction fu with
    | zero => intro k hk hf; exact absurd hf (Nat.not_lt_zero _)
    | succ fu ih_lp =>
      intro k hk hf ls H locs hl hP hD hS
      refine lv_iload_n hx hb dX2_putByRule_2 rfl (lv_at hl 3 rfl) ?_
      refine lv_bipush (v := 10) hx hb dX2_putByRule_3 (by decide) ?_
      refine r_icmp_ge (tgt := 56) hx hb k 10 dX2_putByRule_5 (by decide) rfl rfl (by omega) (by omega) (fun c_5 => ?_) (fun c_5 => ?_)
      · exact endMV () hx hb hr hlocks hA hQ hS hP dX2_putByRule_56 (by rw [show k = 10 by omega]) trivial
      · refine lv_aload_n hx hb dX2_putByRule_8 rfl (lv_at hl 1 rfl) ?_
        refine lv_iload_n hx hb dX2_putByRule_9 rfl (lv_at hl 2 rfl) ?_
        refine lv_aload_n hx hb dX2_putByRule_10 rfl (lv_at hl 0 rfl) ?_
        refine va_get (D := D) (ci := 2) (v := .int ((ruleA wo ne pr ru x k).1)) (C := RX2) (T := TX2) (N := 7) hx hb hts hi_2 hown hK hP 0 rfl rfl 0 (by decide) hf_9 (fun _ h9 => h9) rfl dX2_putByRule_11 ?_
        refine lv_aload_n hx hb dX2_putByRule_14 rfl (lv_at hl 0 rfl) ?_
        refine va_get (D := D) (ci := 2) (v := .int ((ruleA wo ne pr ru x k).2.1)) (C := RX2) (T := TX2) (N := 7) hx hb hts hi_2 hown hK hP 0 rfl rfl 1 (by decide) hf_15 (fun _ h9 => h9) rfl dX2_putByRule_15 ?_
        refine lv_aload_n hx hb dX2_putByRule_18 rfl (lv_at hl 0 rfl) ?_
        refine va_get (D := D) (ci := 2) (v := .int ((ruleA wo ne pr ru x k).2.2.2.2.2.2)) (C := RX2) (T := TX2) (N := 7) hx hb hts hi_2 hown hK hP 0 rfl rfl 6 (by decide) hf_31 (fun _ h9 => h9) rfl dX2_putByRule_19 ?_
        refine goRI hP hS (va_runV (As := [.int ru, .int ((ruleA wo ne pr ru x k).1), .int ((ruleA wo ne pr ru x k).2.1), .int ((ruleA wo ne pr ru x k).2.2.2.2.2.2)]) (rest := []) ⟨hx, hb, hml, hown, hts⟩ (kX3_pick l D cI cJ nt aw ap an ae nn mm wo ne pr ru ((ruleA wo ne pr ru x k).1) ((ruleA wo ne pr ru x k).2.1) ((ruleA wo ne pr ru x k).2.2.2.2.2.2)) (cwV 4 hts gX2_putByRule_X3_pick rfl rfl rfl kdX3_pick ⟨Nat.le_of_ble_eq_true rfl, Nat.le_of_ble_eq_true rfl⟩) (preRV hK hN hP 1 (ci := 3) rfl rfl rfl [1, 2, 3, 4] rfl) rfl rfl hl.1 rfl (lv_room (Nat.le_of_ble_eq_true rfl)) dX2_putByRule_22 ⟨Nat.zero_le _, Nat.zero_le _⟩) (fun H locs hP hS => ?_)
        refine lv_istore (lv' := [(4, .int (pickI wo ne pr ru ((ruleA wo ne pr ru x k).1) ((ruleA wo ne pr ru x k).2.1) ((ruleA wo ne pr ru x k).2.2.2.2.2.2))), (0, .ref co), (1, .ref nt), (2, .int ru), (3, .int (nI k))]) hx hb dX2_putByRule_25 hl (by decide) rfl (fun ls hl => ?_)
        refine lv_iload hx hb dX2_putByRule_27 (lv_at hl 0 rfl) ?_
        refine lv_iconst (v := (-1)) hx hb dX2_putByRule_29 (by decide) ?_
        refine lv_icmp_ne (tgt := 34) hx hb dX2_putByRule_30 (by decide) (fun c_30 => ?_) (fun c_30 => ?_)
        · refine lv_aload_n hx hb dX2_putByRule_34 rfl (lv_at hl 1 rfl) ?_
          refine lv_iconst (v := 1) hx hb dX2_putByRule_35 (by decide) ?_
          refine lv_iload hx hb dX2_putByRule_36 (lv_at hl 0 rfl) ?_
          refine lv_ishl hx hb dX2_putByRule_38 ?_
          refine lv_aload_n hx hb dX2_putByRule_39 rfl (lv_at hl 2 rfl) ?_
          refine lv_iconst (v := 1) hx hb dX2_putByRule_40 (by decide) ?_
          refine lv_iload hx hb dX2_putByRule_41 (lv_at hl 0 rfl) ?_
          refine lv_ishl hx hb dX2_putByRule_43 ?_
          refine goRI hP hS (va_runV (As := [.int (1 <<< ((pickI wo ne pr ru ((ruleA wo ne pr ru x k).1) ((ruleA wo ne pr ru x k).2.1) ((ruleA wo ne pr ru x k).2.2.2.2.2.2)) &&& 31))]) (rest := [.int (1 <<< ((pickI wo ne pr ru ((ruleA wo ne pr ru x k).1) ((ruleA wo ne pr ru x k).2.1) ((ruleA wo ne pr ru x k).2.2.2.2.2.2)) &&& 31)), .ref co]) ⟨hx, hb, hml, hown, hts⟩ (kX3_priceOf l D cI cJ nt aw ap an ae nn mm pr (1 <<< ((pickI wo ne pr ru ((ruleA wo ne pr ru x k).1) ((ruleA wo ne pr ru x k).2.1) ((ruleA wo ne pr ru x k).2.2.2.2.2.2)) &&& 31))) (cwV 1 hts gX2_putByRule_X3_priceOf rfl rfl rfl kdX3_priceOf ⟨Nat.le_of_ble_eq_true rfl, Nat.le_of_ble_eq_true rfl⟩) (preRV hK hN hP 1 (ci := 3) rfl rfl rfl [1, 3] rfl) rfl rfl hl.1 rfl (lv_room (Nat.le_of_ble_eq_true rfl)) dX2_putByRule_44 ⟨Nat.zero_le _, Nat.zero_le _⟩) (fun H locs hP hS => ?_)
          refine goMV hP hD hS (va_runV (As := [.int (1 <<< ((pickI wo ne pr ru ((ruleA wo ne pr ru x k).1) ((ruleA wo ne pr ru x k).2.1) ((ruleA wo ne pr ru x k).2.2.2.2.2.2)) &&& 31)), .int (sumI pr (1 <<< ((pickI wo ne pr ru ((ruleA wo ne pr ru x k).1) ((ruleA wo ne pr ru x k).2.1) ((ruleA wo ne pr ru x k).2.2.2.2.2.2)) &&& 31)) 10)]) (rest := []) ⟨hx, hb, hml, hown, hts⟩ (kX2_pay l D cI cJ co (ruleA wo ne pr ru x k) (1 <<< ((pickI wo ne pr ru ((ruleA wo ne pr ru x k).1) ((ruleA wo ne pr ru x k).2.1) ((ruleA wo ne pr ru x k).2.2.2.2.2.2)) &&& 31)) (sumI pr (1 <<< ((pickI wo ne pr ru ((ruleA wo ne pr ru x k).1) ((ruleA wo ne pr ru x k).2.1) ((ruleA wo ne pr ru x k).2.2.2.2.2.2)) &&& 31)) 10)) (cwV 2 hts gX2_putByRule_X2_pay rfl rfl rfl kdX2_pay ⟨Nat.le_of_ble_eq_true rfl, Nat.le_of_ble_eq_true rfl⟩) (preMV hK hN hP hD 0 (ci := 2) rfl rfl rfl [0] rfl (by decide)) rfl rfl hl.1 rfl (lv_room (Nat.le_of_ble_eq_true rfl)) dX2_putByRule_47 ⟨Nat.zero_le _, Nat.zero_le _⟩) [0] rfl (by decide) (fun _ => (show ([co] : List Nat) = [co] from rfl)) (fun _ H locs hp_47 hP hD hS => ?_)
          have hP : va_P D vwCl [(co, .inr (2, [.int ((payC (1 <<< ((pickI wo ne pr ru ((ruleA wo ne pr ru x k).1) ((ruleA wo ne pr ru x k).2.1) ((ruleA wo ne pr ru x k).2.2.2.2.2.2)) &&& 31)) (sumI pr (1 <<< ((pickI wo ne pr ru ((ruleA wo ne pr ru x k).1) ((ruleA wo ne pr ru x k).2.1) ((ruleA wo ne pr ru x k).2.2.2.2.2.2)) &&& 31)) 10) (ruleA wo ne pr ru x k)).1), .int ((payC (1 <<< ((pickI wo ne pr ru ((ruleA wo ne pr ru x k).1) ((ruleA wo ne pr ru x k).2.1) ((ruleA wo ne pr ru x k).2.2.2.2.2.2)) &&& 31)) (sumI pr (1 <<< ((pickI wo ne pr ru ((ruleA wo ne pr ru x k).1) ((ruleA wo ne pr ru x k).2.1) ((ruleA wo ne pr ru x k).2.2.2.2.2.2)) &&& 31)) 10) (ruleA wo ne pr ru x k)).2.1), .int (nI ((payC (1 <<< ((pickI wo ne pr ru ((ruleA wo ne pr ru x k).1) ((ruleA wo ne pr ru x k).2.1) ((ruleA wo ne pr ru x k).2.2.2.2.2.2)) &&& 31)) (sumI pr (1 <<< ((pickI wo ne pr ru ((ruleA wo ne pr ru x k).1) ((ruleA wo ne pr ru x k).2.1) ((ruleA wo ne pr ru x k).2.2.2.2.2.2)) &&& 31)) 10) (ruleA wo ne pr ru x k)).2.2.1)), .int ((payC (1 <<< ((pickI wo ne pr ru ((ruleA wo ne pr ru x k).1) ((ruleA wo ne pr ru x k).2.1) ((ruleA wo ne pr ru x k).2.2.2.2.2.2)) &&& 31)) (sumI pr (1 <<< ((pickI wo ne pr ru ((ruleA wo ne pr ru x k).1) ((ruleA wo ne pr ru x k).2.1) ((ruleA wo ne pr ru x k).2.2.2.2.2.2)) &&& 31)) 10) (ruleA wo ne pr ru x k)).2.2.2.1), .int (zb ((payC (1 <<< ((pickI wo ne pr ru ((ruleA wo ne pr ru x k).1) ((ruleA wo ne pr ru x k).2.1) ((ruleA wo ne pr ru x k).2.2.2.2.2.2)) &&& 31)) (sumI pr (1 <<< ((pickI wo ne pr ru ((ruleA wo ne pr ru x k).1) ((ruleA wo ne pr ru x k).2.1) ((ruleA wo ne pr ru x k).2.2.2.2.2.2)) &&& 31)) 10) (ruleA wo ne pr ru x k)).2.2.2.2.1 = true)), .int (zb ((payC (1 <<< ((pickI wo ne pr ru ((ruleA wo ne pr ru x k).1) ((ruleA wo ne pr ru x k).2.1) ((ruleA wo ne pr ru x k).2.2.2.2.2.2)) &&& 31)) (sumI pr (1 <<< ((pickI wo ne pr ru ((ruleA wo ne pr ru x k).1) ((ruleA wo ne pr ru x k).2.1) ((ruleA wo ne pr ru x k).2.2.2.2.2.2)) &&& 31)) 10) (ruleA wo ne pr ru x k)).2.2.2.2.2.1 = true)), .int ((payC (1 <<< ((pickI wo ne pr ru ((ruleA wo ne pr ru x k).1) ((ruleA wo ne pr ru x k).2.1) ((ruleA wo ne pr ru x k).2.2.2.2.2.2)) &&& 31)) (sumI pr (1 <<< ((pickI wo ne pr ru ((ruleA wo ne pr ru x k).1) ((ruleA wo ne pr ru x k).2.1) ((ruleA wo ne pr ru x k).2.2.2.2.2.2)) &&& 31)) 10) (ruleA wo ne pr ru x k)).2.2.2.2.2.2)])), (nt, .inr (3, [.int (nI nn), .int (nI mm), .ref aw, .ref ap, .ref an, .ref ae])), (aw, .inl (cI, 10, .inl wo)), (ap, .inl (cI, 10, .inl pr)), (an, .inl (cI, 10, .inl ne))] H := hP
          have hD : va_D A [(co, .inr (2, [.int ((payC (1 <<< ((pickI wo ne pr ru ((ruleA wo ne pr ru x k).1) ((ruleA wo ne pr ru x k).2.1) ((ruleA wo ne pr ru x k).2.2.2.2.2.2)) &&& 31)) (sumI pr (1 <<< ((pickI wo ne pr ru ((ruleA wo ne pr ru x k).1) ((ruleA wo ne pr ru x k).2.1) ((ruleA wo ne pr ru x k).2.2.2.2.2.2)) &&& 31)) 10) (ruleA wo ne pr ru x k)).1), .int ((payC (1 <<< ((pickI wo ne pr ru ((ruleA wo ne pr ru x k).1) ((ruleA wo ne pr ru x k).2.1) ((ruleA wo ne pr ru x k).2.2.2.2.2.2)) &&& 31)) (sumI pr (1 <<< ((pickI wo ne pr ru ((ruleA wo ne pr ru x k).1) ((ruleA wo ne pr ru x k).2.1) ((ruleA wo ne pr ru x k).2.2.2.2.2.2)) &&& 31)) 10) (ruleA wo ne pr ru x k)).2.1), .int (nI ((payC (1 <<< ((pickI wo ne pr ru ((ruleA wo ne pr ru x k).1) ((ruleA wo ne pr ru x k).2.1) ((ruleA wo ne pr ru x k).2.2.2.2.2.2)) &&& 31)) (sumI pr (1 <<< ((pickI wo ne pr ru ((ruleA wo ne pr ru x k).1) ((ruleA wo ne pr ru x k).2.1) ((ruleA wo ne pr ru x k).2.2.2.2.2.2)) &&& 31)) 10) (ruleA wo ne pr ru x k)).2.2.1)), .int ((payC (1 <<< ((pickI wo ne pr ru ((ruleA wo ne pr ru x k).1) ((ruleA wo ne pr ru x k).2.1) ((ruleA wo ne pr ru x k).2.2.2.2.2.2)) &&& 31)) (sumI pr (1 <<< ((pickI wo ne pr ru ((ruleA wo ne pr ru x k).1) ((ruleA wo ne pr ru x k).2.1) ((ruleA wo ne pr ru x k).2.2.2.2.2.2)) &&& 31)) 10) (ruleA wo ne pr ru x k)).2.2.2.1), .int (zb ((payC (1 <<< ((pickI wo ne pr ru ((ruleA wo ne pr ru x k).1) ((ruleA wo ne pr ru x k).2.1) ((ruleA wo ne pr ru x k).2.2.2.2.2.2)) &&& 31)) (sumI pr (1 <<< ((pickI wo ne pr ru ((ruleA wo ne pr ru x k).1) ((ruleA wo ne pr ru x k).2.1) ((ruleA wo ne pr ru x k).2.2.2.2.2.2)) &&& 31)) 10) (ruleA wo ne pr ru x k)).2.2.2.2.1 = true)), .int (zb ((payC (1 <<< ((pickI wo ne pr ru ((ruleA wo ne pr ru x k).1) ((ruleA wo ne pr ru x k).2.1) ((ruleA wo ne pr ru x k).2.2.2.2.2.2)) &&& 31)) (sumI pr (1 <<< ((pickI wo ne pr ru ((ruleA wo ne pr ru x k).1) ((ruleA wo ne pr ru x k).2.1) ((ruleA wo ne pr ru x k).2.2.2.2.2.2)) &&& 31)) 10) (ruleA wo ne pr ru x k)).2.2.2.2.2.1 = true)), .int ((payC (1 <<< ((pickI wo ne pr ru ((ruleA wo ne pr ru x k).1) ((ruleA wo ne pr ru x k).2.1) ((ruleA wo ne pr ru x k).2.2.2.2.2.2)) &&& 31)) (sumI pr (1 <<< ((pickI wo ne pr ru ((ruleA wo ne pr ru x k).1) ((ruleA wo ne pr ru x k).2.1) ((ruleA wo ne pr ru x k).2.2.2.2.2.2)) &&& 31)) 10) (ruleA wo ne pr ru x k)).2.2.2.2.2.2)])), (nt, .inr (3, [.int (nI nn), .int (nI mm), .ref aw, .ref ap, .ref an, .ref ae])), (aw, .inl (cI, 10, .inl wo)), (ap, .inl (cI, 10, .inl pr)), (an, .inl (cI, 10, .inl ne))] := hD
          refine r_iinc (lv' := [(3, .int (nI (k + 1))), (4, .int (pickI wo ne pr ru ((ruleA wo ne pr ru x k).1) ((ruleA wo ne pr ru x k).2.1) ((ruleA wo ne pr ru x k).2.2.2.2.2.2))), (0, .ref co), (1, .ref nt), (2, .int ru)]) hx hb 4 k dX2_putByRule_50 hl rfl (by decide) rfl (fun ls hl => ?_)
          refine lv_goto (tgt := 2) hx hb dX2_putByRule_53 (by decide) ?_
          exact ih_lp (k + 1) (by omega) (by omega) ls _ _ (lv_sub hl [2, 3, 4, 0] rfl) (by rw [ruleA, ruleS, if_neg c_30]; exact hP) (by rw [ruleA, ruleS, if_neg c_30]; exact hD) hS
        · exact endMV () hx hb hr hlocks hA hQ hS hP dX2_putByRule_33 (by rw [show (10 : Nat) = k + (10 - k) by omega, ruleA_stop (by rw [ruleS, if_pos c_30])]) trivial
  exact lp _ 0 (by omega) (Nat.lt_succ_self _) ls _ _ (lv_sub hl [1, 2, 3, 0] rfl) hP hD hS
def rmX2_spread : Room := { frames := 2, cells := 0, slots := 0, locals := 45 }
theorem kdX2_spread : yX2_spread.cls = RX2 ∧ yX2_spread.cls ≠ "java/lang/invoke/MethodHandle" ∧ yX2_spread.cls ≠ "java/lang/invoke/VarHandle" ∧ (parseMethodDescriptor yX2_spread.desc).map (fun d => d.parameters.length) = some 1 := ⟨rfl, by decide +kernel, by decide +kernel, by decide +kernel⟩
set_option maxRecDepth 100000 in
set_option maxHeartbeats 1000000 in
theorem kX2_spread (l : Launch) (D : va_G) (cI cJ : ClassId) (co nt aw ap an ae nn mm : Nat) (x : Cs) (ne : Row)  : Met l yX2_spread wsX2_spread rmX2_spread (mPre D cI cJ [.ref co, .ref nt] [(co, .inr (2, [.int x.1, .int x.2.1, .int (nI x.2.2.1), .int x.2.2.2.1, .int (zb (x.2.2.2.2.1 = true)), .int (zb (x.2.2.2.2.2.1 = true)), .int x.2.2.2.2.2.2])), (nt, .inr (3, [.int (nI nn), .int (nI mm), .ref aw, .ref ap, .ref an, .ref ae])), (an, .inl (cI, 10, .inl ne))]) (mQv D (fun (_ : Unit) => True) (fun (_ : Unit) => [(co, .inr (2, [.int ((spreadC ne x).1), .int ((spreadC ne x).2.1), .int (nI ((spreadC ne x).2.2.1)), .int ((spreadC ne x).2.2.2.1), .int (zb ((spreadC ne x).2.2.2.2.1 = true)), .int (zb ((spreadC ne x).2.2.2.2.2.1 = true)), .int ((spreadC ne x).2.2.2.2.2.2)])), (nt, .inr (3, [.int (nI nn), .int (nI mm), .ref aw, .ref ap, .ref an, .ref ae])), (an, .inl (cI, 10, .inl ne))]) [(co, .inr (2, [.int x.1, .int x.2.1, .int (nI x.2.2.1), .int x.2.2.2.1, .int (zb (x.2.2.2.2.1 = true)), .int (zb (x.2.2.2.2.2.1 = true)), .int x.2.2.2.2.2.2])), (nt, .inr (3, [.int (nI nn), .int (nI mm), .ref aw, .ref ap, .ref an, .ref ae])), (an, .inl (cI, 10, .inl ne))]) 0 0 (mA [(co, .inr (2, [.int x.1, .int x.2.1, .int (nI x.2.2.1), .int x.2.2.2.1, .int (zb (x.2.2.2.2.1 = true)), .int (zb (x.2.2.2.2.2.1 = true)), .int x.2.2.2.2.2.2])), (nt, .inr (3, [.int (nI nn), .int (nI mm), .ref aw, .ref ap, .ref an, .ref ae])), (an, .inl (cI, 10, .inl ne))]) := by
  refine startM (cc := cX2_spread) (maxL := 3) (ret := none) (by decide) rfl (Nat.le_of_ble_eq_true rfl) ?_
  intro p e s m args below meth c ls Q A hA hQ hx hb hr hlocks hml hown hts hK hN hP hD hl hin
  have hown : s.vm.findClass RX2 = some m.cls := hown
  have hi_2 : ∀ w ∈ wsX20, w ∈ wsX2_spread := by decide +kernel
  have hf_9 := hts (.fieldLink RX2 9 "FireNets$Course" "burning" "I") (by decide +kernel)
  have hf_15 := hts (.fieldLink RX2 15 "FireNets$Course" "guards" "I") (by decide +kernel)
  have hf_24 := hts (.fieldLink RX2 24 "FireNets$Course" "bad" "Z") (by decide +kernel)
  have hf_28 := hts (.fieldLink RX2 28 "FireNets$Course" "over" "Z") (by decide +kernel)
  have hS : va_S A s.heap s.heap [] := va_S.rf
  have hl : lv_has ls 3 [(0, .ref co), (1, .ref nt)] := hl
  have hP : va_P D vwCl [(co, .inr (2, [.int x.1, .int x.2.1, .int (nI x.2.2.1), .int x.2.2.2.1, .int (zb (x.2.2.2.2.1 = true)), .int (zb (x.2.2.2.2.2.1 = true)), .int x.2.2.2.2.2.2])), (nt, .inr (3, [.int (nI nn), .int (nI mm), .ref aw, .ref ap, .ref an, .ref ae])), (an, .inl (cI, 10, .inl ne))] s.heap := hP
  refine lv_aload_n hx hb dX2_spread_0 rfl (lv_at hl 0 rfl) ?_
  refine va_get (D := D) (ci := 2) (v := .int (zb (x.2.2.2.2.1 = true))) (C := RX2) (T := TX2) (N := 7) hx hb hts hi_2 hown hK hP 0 rfl rfl 4 (by decide) hf_24 (fun _ h9 => h9) rfl dX2_spread_1 ?_
  refine r_zeq (tgt := 8) hx hb dX2_spread_4 (by decide) (fun c_4 => ?_) (fun c_4 => ?_)
  · refine lv_aload_n hx hb dX2_spread_8 rfl (lv_at hl 1 rfl) ?_
    refine lv_aload_n hx hb dX2_spread_9 rfl (lv_at hl 0 rfl) ?_
    refine va_get (D := D) (ci := 2) (v := .int x.1) (C := RX2) (T := TX2) (N := 7) hx hb hts hi_2 hown hK hP 0 rfl rfl 0 (by decide) hf_9 (fun _ h9 => h9) rfl dX2_spread_10 ?_
    refine lv_aload_n hx hb dX2_spread_13 rfl (lv_at hl 0 rfl) ?_
    refine va_get (D := D) (ci := 2) (v := .int x.2.1) (C := RX2) (T := TX2) (N := 7) hx hb hts hi_2 hown hK hP 0 rfl rfl 1 (by decide) hf_15 (fun _ h9 => h9) rfl dX2_spread_14 ?_
    refine goRI hP hS (va_runV (As := [.int x.1, .int x.2.1]) (rest := []) ⟨hx, hb, hml, hown, hts⟩ (kX3_threatened l D cI cJ nt aw ap an ae nn mm ne x.1 x.2.1) (cwV 2 hts gX2_spread_X3_threatened rfl rfl rfl kdX3_threatened ⟨Nat.le_of_ble_eq_true rfl, Nat.le_of_ble_eq_true rfl⟩) (preRV hK hN hP 1 (ci := 3) rfl rfl rfl [1, 2] rfl) rfl rfl hl.1 rfl (lv_room (Nat.le_of_ble_eq_true rfl)) dX2_spread_17 ⟨Nat.zero_le _, Nat.zero_le _⟩) (fun H locs hP hS => ?_)
    refine lv_istore_n (lv' := [(2, .int (thr ne x.1 x.2.1)), (0, .ref co), (1, .ref nt)]) hx hb dX2_spread_20 rfl hl (by decide) rfl (fun ls hl => ?_)
    refine lv_aload_n hx hb dX2_spread_21 rfl (lv_at hl 1 rfl) ?_
    refine lv_dup hx hb dX2_spread_22 rfl ?_
    refine va_get (D := D) (ci := 2) (v := .int x.1) (C := RX2) (T := TX2) (N := 7) hx hb hts hi_2 hown hK hP 0 rfl rfl 0 (by decide) hf_9 (fun _ h9 => h9) rfl dX2_spread_23 ?_
    refine lv_iload_n hx hb dX2_spread_26 rfl (lv_at hl 0 rfl) ?_
    refine lv_ior hx hb dX2_spread_27 ?_
    refine va_put (D := D) (ci := 2) (v := .int (x.1 ||| (thr ne x.1 x.2.1))) (ty := .int) (C := RX2) (T := TX2) (N := 7) hx hb hts hi_2 tyX2 tyX2_ok nmX2 hown hK hP hD hS 0 rfl rfl 0 (by decide) hf_9 (fun _ h9 => h9) rfl (by decide +kernel) rfl rfl (Nat.le_of_ble_eq_true rfl) dX2_spread_28 (fun H locs hP hD hS => ?_)
    have hP : va_P D vwCl [(co, .inr (2, [.int (x.1 ||| (thr ne x.1 x.2.1)), .int x.2.1, .int (nI x.2.2.1), .int x.2.2.2.1, .int (zb (x.2.2.2.2.1 = true)), .int (zb (x.2.2.2.2.2.1 = true)), .int x.2.2.2.2.2.2])), (nt, .inr (3, [.int (nI nn), .int (nI mm), .ref aw, .ref ap, .ref an, .ref ae])), (an, .inl (cI, 10, .inl ne))] H := hP
    have hD : va_D A [(co, .inr (2, [.int (x.1 ||| (thr ne x.1 x.2.1)), .int x.2.1, .int (nI x.2.2.1), .int x.2.2.2.1, .int (zb (x.2.2.2.2.1 = true)), .int (zb (x.2.2.2.2.2.1 = true)), .int x.2.2.2.2.2.2])), (nt, .inr (3, [.int (nI nn), .int (nI mm), .ref aw, .ref ap, .ref an, .ref ae])), (an, .inl (cI, 10, .inl ne))] := hD
    refine lv_aload_n hx hb dX2_spread_31 rfl (lv_at hl 1 rfl) ?_
    refine lv_iload_n hx hb dX2_spread_32 rfl (lv_at hl 0 rfl) ?_
    refine lv_if_ne (tgt := 40) hx hb dX2_spread_33 (by decide) (fun c_33 => ?_) (fun c_33 => ?_)
    · refine lv_iconst (v := 0) hx hb dX2_spread_40 (by decide) ?_
      refine va_put (D := D) (ci := 2) (v := .int 0) (ty := .boolean) (C := RX2) (T := TX2) (N := 7) hx hb hts hi_2 tyX2 tyX2_ok nmX2 hown hK hP hD hS 0 rfl rfl 5 (by decide) hf_28 (fun _ h9 => h9) rfl (by decide +kernel) rfl rfl (Nat.le_of_ble_eq_true rfl) dX2_spread_41 (fun H locs hP hD hS => ?_)
      have hP : va_P D vwCl [(co, .inr (2, [.int (x.1 ||| (thr ne x.1 x.2.1)), .int x.2.1, .int (nI x.2.2.1), .int x.2.2.2.1, .int (zb (x.2.2.2.2.1 = true)), .int 0, .int x.2.2.2.2.2.2])), (nt, .inr (3, [.int (nI nn), .int (nI mm), .ref aw, .ref ap, .ref an, .ref ae])), (an, .inl (cI, 10, .inl ne))] H := hP
      have hD : va_D A [(co, .inr (2, [.int (x.1 ||| (thr ne x.1 x.2.1)), .int x.2.1, .int (nI x.2.2.1), .int x.2.2.2.1, .int (zb (x.2.2.2.2.1 = true)), .int 0, .int x.2.2.2.2.2.2])), (nt, .inr (3, [.int (nI nn), .int (nI mm), .ref aw, .ref ap, .ref an, .ref ae])), (an, .inl (cI, 10, .inl ne))] := hD
      exact endMV () hx hb hr hlocks hA hQ hS hP dX2_spread_44 (by rw [spreadC, if_neg c_4, if_neg c_33]; rfl) trivial
    · refine lv_iconst (v := 1) hx hb dX2_spread_36 (by decide) ?_
      refine lv_goto (tgt := 41) hx hb dX2_spread_37 (by decide) ?_
      refine va_put (D := D) (ci := 2) (v := .int 1) (ty := .boolean) (C := RX2) (T := TX2) (N := 7) hx hb hts hi_2 tyX2 tyX2_ok nmX2 hown hK hP hD hS 0 rfl rfl 5 (by decide) hf_28 (fun _ h9 => h9) rfl (by decide +kernel) rfl rfl (Nat.le_of_ble_eq_true rfl) dX2_spread_41 (fun H locs hP hD hS => ?_)
      have hP : va_P D vwCl [(co, .inr (2, [.int (x.1 ||| (thr ne x.1 x.2.1)), .int x.2.1, .int (nI x.2.2.1), .int x.2.2.2.1, .int (zb (x.2.2.2.2.1 = true)), .int 1, .int x.2.2.2.2.2.2])), (nt, .inr (3, [.int (nI nn), .int (nI mm), .ref aw, .ref ap, .ref an, .ref ae])), (an, .inl (cI, 10, .inl ne))] H := hP
      have hD : va_D A [(co, .inr (2, [.int (x.1 ||| (thr ne x.1 x.2.1)), .int x.2.1, .int (nI x.2.2.1), .int x.2.2.2.1, .int (zb (x.2.2.2.2.1 = true)), .int 1, .int x.2.2.2.2.2.2])), (nt, .inr (3, [.int (nI nn), .int (nI mm), .ref aw, .ref ap, .ref an, .ref ae])), (an, .inl (cI, 10, .inl ne))] := hD
      exact endMV () hx hb hr hlocks hA hQ hS hP dX2_spread_44 (by rw [spreadC, if_neg c_4, if_pos c_33]; rfl) trivial
  · exact endMV () hx hb hr hlocks hA hQ hS hP dX2_spread_7 (by rw [spreadC, if_pos c_4]) trivial

/-! the reference, as functions -/
def moV (nn : Int32) (mm : Int32) (me : Nat) (mj : Nat) (mw : Nat) (mp : Nat) (mu : Nat) (ke : Int32) (bd : Int32) (ml : Nat) (sq : Int32) (mq : Nat) (fi : Int32) (gu : Int32) (le : Int32) (cs : Int32) (ba : Int32) (ov : Int32) (m1 : Nat) (m2 : Nat) (m3 : Nat) (m4 : Nat) (lk : Int32) (sp : Int32) (bs : Int32) (bo : Int32) (m5 : Nat) (m6 : Nat) (m7 : Nat) (su : Int32) (sl : Int32) (m8 : Nat) (lo : Int32) (sh : Int32) : List Value := .int nn :: .int mm :: .ref me :: .ref mj :: .ref mw :: .ref mp :: .ref mu :: .int ke :: .int bd :: .ref ml :: .int sq :: .ref mq :: .int fi :: .int gu :: .int le :: .int cs :: .int ba :: .int ov :: .ref m1 :: .ref m2 :: .ref m3 :: .ref m4 :: .int lk :: .int sp :: .int bs :: .int bo :: .ref m5 :: .ref m6 :: .ref m7 :: .int su :: .int sl :: .ref m8 :: .int lo :: .int sh :: []
theorem in_c {lo hi : Int64} {a b v : Int32} (ha : a.toInt64 = lo) (hb : b.toInt64 = hi) : (lo ≤ v.toInt64 ∧ v.toInt64 ≤ hi) ↔ (a ≤ v ∧ v ≤ b) := by
  subst ha; subst hb
  simp only [Int64.le_iff_toInt_le, Int32.toInt_toInt64, Int32.le_iff_toInt_le]
def sumM (row : Row) (set : Int32) : Nat → Int32
  | 0 => 0
  | k + 1 => sumM row set k + bt set (nI k) * row k
def nearA (ne : Row) (fi : Int32) : Nat → Int32
  | 0 => 0
  | k + 1 => if bt fi (nI k) = 1 then nearA ne fi k ||| ne k else nearA ne fi k ||| 0
def nearM (n : Nat) (ne : Row) (fi gu : Int32) : Int32 := nearA ne fi n &&& (fi ^^^ (-1)) &&& (gu ^^^ (-1))
def fillM (ow : Row) (ke : Bool) (t : Nat) (le : Int32) : Int32 := if ke = true then if t < 8 then le + ow t else le + ow 8 else if t < 8 then 0 + ow t else 0 + ow 8
def savedM (n : Nat) (wo : Row) (fi : Int32) : Int32 := sumM wo (allI (nI n) &&& (fi ^^^ (-1))) n
def bitsA (v : Int32) : Nat → Int32
  | 0 => 0
  | k + 1 => bitsA v k + bt v (nI k)
/-- fire, guards, left, cost -/
abbrev Ps := Int32 × Int32 × Int32 × Int32
def guardM (n : Nat) (pr : Row) (v : Int32) (x : Ps) : Ps := (x.1, x.2.1 ||| v, x.2.2.1 - sumM pr v n, x.2.2.2 + sumM pr v n)
def cntM (wa : Row) (t : Int32) : Nat → Int32
  | 0 => 0
  | k + 1 => if wa (3 * k + 2) = t then cntM wa t k + 1 else cntM wa t k + 0
def needM (wa : Row) (sq : Nat) : Nat → Int32
  | 0 => 0
  | t + 1 => if needM wa sq t < cntM wa (nI (t + 1)) sq then cntM wa (nI (t + 1)) sq else needM wa sq t
def rankM (wo ne : Row) (ru fi gu : Int32) (k : Nat) : Int32 := if ru = 0 then 0 else if ru = 1 then wo k else bitsA (ne k &&& (fi ^^^ (-1)) &&& (gu ^^^ (-1))) 10
/-- best, most -/
def nextS (n : Nat) (wo ne pr : Row) (ru fi gu le : Int32) (k : Nat) (q : Int32 × Int32) : Int32 × Int32 :=
  if bt (nearM n ne fi gu) (nI k) = 1 then if pr k ≤ le then if q.2 < rankM wo ne ru fi gu k then (nI k, rankM wo ne ru fi gu k) else q else q else q
def nextA (n : Nat) (wo ne pr : Row) (ru fi gu le : Int32) : Nat → Int32 × Int32
  | 0 => (-1, -1)
  | k + 1 => nextS n wo ne pr ru fi gu le k (nextA n wo ne pr ru fi gu le k)
def nextM (n : Nat) (wo ne pr : Row) (ru : Int32) (x : Ps) : Int32 := (nextA n wo ne pr ru x.1 x.2.1 x.2.2.1 n).1
/-- fire, guards, left, cost, bad, overAt -/
abbrev Pm := Int32 × Int32 × Int32 × Int32 × Bool × Int32
def lawM (n : Nat) (pr : Row) (v fi gu le : Int32) : Prop := v ≤ allI (nI n) ∧ v &&& (fi ||| gu) = 0 ∧ sumM pr v n ≤ le
def playS2 (n : Nat) (pr ne : Row) (t : Nat) (v le : Int32) (x : Pm) : Pm :=
  if v ≤ allI (nI n) ∧ v &&& (x.1 ||| x.2.1) = 0 ∧ sumM pr v n ≤ le then
    if ¬ nearM n ne x.1 (x.2.1 ||| v) = 0 then (x.1 ||| nearM n ne x.1 (x.2.1 ||| v), x.2.1 ||| v, le - sumM pr v n, x.2.2.2.1 + sumM pr v n, false, 0)
    else (x.1 ||| nearM n ne x.1 (x.2.1 ||| v), x.2.1 ||| v, le - sumM pr v n, x.2.2.2.1 + sumM pr v n, false, nI t)
  else (x.1, x.2.1, le, x.2.2.2.1, true, nI t)
def playS (n : Nat) (pr ne ow pl : Row) (ke : Bool) (t : Nat) (x : Pm) : Pm := if t ≤ 8 then playS2 n pr ne t (pl t) (fillM ow ke t x.2.2.1) x else playS2 n pr ne t 0 (fillM ow ke t x.2.2.1) x
def playA (n : Nat) (pr ne ow pl : Row) (ke : Bool) (fire : Int32) : Nat → Pm
  | 0 => (fire, 0, 0, 0, false, 0)
  | k + 1 => if (playA n pr ne ow pl ke fire k).2.2.2.2.2 = 0 then playS n pr ne ow pl ke (k + 1) (playA n pr ne ow pl ke fire k) else playA n pr ne ow pl ke fire k
theorem playA_stop {n : Nat} {pr ne ow pl : Row} {ke : Bool} {fire : Int32} {k : Nat} (h : (playA n pr ne ow pl ke fire k).2.2.2.2.2 ≠ 0) : ∀ j, playA n pr ne ow pl ke fire (k + j) = playA n pr ne ow pl ke fire k
  | 0 => rfl
  | j + 1 => by
    show (if (playA n pr ne ow pl ke fire (k + j)).2.2.2.2.2 = 0 then _ else playA n pr ne ow pl ke fire (k + j)) = _
    rw [playA_stop h j, if_neg h]
def netP (v : Int32) : Prop := 1 ≤ v ∧ v ≤ 10
def lineR (n m : Nat) (ne : Row) (a b : Int32) : Int32 :=
  if (0 ≤ a ∧ a ≤ nI n - 1) ∧ (0 ≤ b ∧ b ≤ nI n - 1) then if a = b then -1002 else if bt (ne a.toNatClampNeg) b = 1 then -1003 else if m = 24 then -1004 else nI m else -1001
def linkR (n m : Nat) (ne : Row) (a b : Int32) : Bool := decide (((0 ≤ a ∧ a ≤ nI n - 1) ∧ (0 ≤ b ∧ b ≤ nI n - 1)) ∧ a ≠ b ∧ ¬ bt (ne a.toNatClampNeg) b = 1 ∧ ¬ m = 24)
def nodeR (n : Int32) (wo pr : Row) (k what v : Int32) : Int32 × Row × Row :=
  if 0 ≤ k ∧ k ≤ n - 1 then if 0 ≤ what ∧ what ≤ 1 then if what ≤ v ∧ v ≤ 9 then if what = 0 then (wo k.toNatClampNeg, upd wo k.toNatClampNeg v, pr) else (pr k.toNatClampNeg, wo, upd pr k.toNatClampNeg v) else (-1002, wo, pr) else (-1002, wo, pr) else (-1001, wo, pr)
def purseR (ow : Row) (t v : Int32) : Int32 × Row := if 1 ≤ t ∧ t ≤ 8 then if 0 ≤ v ∧ v ≤ 20 then (ow t.toNatClampNeg, upd ow t.toNatClampNeg v) else (-1002, ow) else (-1002, ow)
def planR (pl : Row) (t v : Int32) : Int32 × Row := if 1 ≤ t ∧ t ≤ 8 then if 0 ≤ v ∧ v ≤ 1023 then (pl t.toNatClampNeg, upd pl t.toNatClampNeg v) else (-1002, pl) else (-1002, pl)
def countR (nn mm : Nat) (wo : Row) (sq : Nat) (wa : Row) (what : Int32) : Int32 := if what = 0 then nI nn else if what = 1 then nI mm else if what = 2 then sumM wo (allI (nI nn)) nn else if what = 3 then nI sq else if what = 4 then needM wa sq 20 else -1002
def playR (n : Nat) (wo : Row) (y : Pm) (fire what : Int32) : Int32 := if 1 ≤ fire ∧ fire ≤ allI (nI n) then if 0 ≤ what ∧ what ≤ 4 then if what = 0 then if y.2.2.2.2.1 = true then -1 else savedM n wo y.1 else if what = 1 then y.1 else if what = 2 then y.2.1 else if what = 3 then y.2.2.2.2.2 else y.2.2.2.1 else -1002 else -1002
def burnsR (n : Nat) (y : Pm) (fire tick : Int32) : Int32 := if 1 ≤ fire ∧ fire ≤ allI (nI n) then if 0 ≤ tick ∧ tick ≤ 20 then y.1 else -1002 else -1002
def isWM (wa : Row) (x y : Int32) : Nat → Bool
  | 0 => false
  | k + 1 => isWM wa x y k || (decide (wa (3 * k) = x) && decide (wa (3 * k + 1) = y))
theorem isWM_mono {wa : Row} {x y : Int32} {k : Nat} (h : isWM wa x y k = true) : ∀ j, isWM wa x y (k + j) = true
  | 0 => h
  | j + 1 => by
    show (isWM wa x y (k + j) || _) = true
    rw [isWM_mono h j]
    rfl
def wallR (wa : Row) (sq : Nat) (x y t : Int32) : Int32 :=
  if -30 ≤ x ∧ x ≤ 30 then if -30 ≤ y ∧ y ≤ 30 then if x = 0 ∧ y = 0 then -1002 else if 1 ≤ t ∧ t ≤ 20 then if isWM wa x y sq = true then -1003 else if sq = 40 then -1004 else nI (sq + 1) else -1002 else -1002 else -1002
def wallC (wa : Row) (sq : Nat) (x y t : Int32) : Bool := decide ((-30 ≤ x ∧ x ≤ 30) ∧ (-30 ≤ y ∧ y ≤ 30) ∧ ¬ (x = 0 ∧ y = 0) ∧ (1 ≤ t ∧ t ≤ 20) ∧ isWM wa x y sq = false ∧ ¬ sq = 40)
def rmX7_in : Room := { frames := 0, cells := 0, slots := 0, locals := 0 }
theorem kdX7_in : yX7_in.cls = RX7 ∧ yX7_in.cls ≠ "java/lang/invoke/MethodHandle" ∧ yX7_in.cls ≠ "java/lang/invoke/VarHandle" ∧ (parseMethodDescriptor yX7_in.desc).map (fun d => d.parameters.length) = some 3 := ⟨rfl, by decide +kernel, by decide +kernel, by decide +kernel⟩
set_option maxRecDepth 100000 in
set_option maxHeartbeats 1000000 in
theorem kX7_in (l : Launch) (D : va_G) (cI cJ : ClassId) (v a b : Int64)  : Met l yX7_in wsX7_in rmX7_in (rPre D cI cJ [.long v, .long a, .long b] []) (qRI (zb (a ≤ v ∧ v ≤ b))) 0 0 nA := by
  refine startR (cc := cX7_in) (maxL := 6) (ret := (some .boolean)) (by decide) rfl (Nat.le_of_ble_eq_true rfl) ?_
  intro p e s m args below meth c ls Q hQ hx hb hr hlocks hml hown hts hK hN hP hl hin
  have hown : s.vm.findClass RX7 = some m.cls := hown
  have hS : va_S nA s.heap s.heap [] := va_S.rf
  have hl : lv_has ls 6 [(0, .long v), (2, .long a), (4, .long b)] := hl
  have hP : va_P D vwCl [] s.heap := hP
  refine lv_lload_n hx hb dX7_in_0 rfl (lv_at hl 0 rfl) ?_
  refine lv_lload_n hx hb dX7_in_1 rfl (lv_at hl 1 rfl) ?_
  refine W.lcmp hx hb dX7_in_2 ?_
  refine lv_if_lt (tgt := 17) hx hb dX7_in_3 (by decide) (fun c_3 => ?_) (fun c_3 => ?_)
  · refine lv_iconst (v := 0) hx hb dX7_in_17 (by decide) ?_
    exact endRZ hx hb hr hlocks hQ hS dX7_in_18 rfl (zb_f (fun h => absurd ((lg_cmp_lt v a).mp c_3) (Int64.not_lt.mpr h.1)))
  · refine lv_lload_n hx hb dX7_in_6 rfl (lv_at hl 0 rfl) ?_
    refine lv_lload hx hb dX7_in_7 (lv_at hl 2 rfl) ?_
    refine W.lcmp hx hb dX7_in_9 ?_
    refine lv_if_gt (tgt := 17) hx hb dX7_in_10 (by decide) (fun c_10 => ?_) (fun c_10 => ?_)
    · refine lv_iconst (v := 0) hx hb dX7_in_17 (by decide) ?_
      exact endRZ hx hb hr hlocks hQ hS dX7_in_18 rfl (zb_f (fun h => absurd ((lg_cmp_gt v b).mp c_10) (Int64.not_lt.mpr h.2)))
    · refine lv_iconst (v := 1) hx hb dX7_in_13 (by decide) ?_
      refine lv_goto (tgt := 18) hx hb dX7_in_14 (by decide) ?_
      exact endRZ hx hb hr hlocks hQ hS dX7_in_18 rfl (zb_t ⟨Int64.not_lt.mp (fun h => c_3 ((lg_cmp_lt v a).mpr h)), Int64.not_lt.mp (fun h => c_10 ((lg_cmp_gt v b).mpr h))⟩)
def rmX7_all : Room := { frames := 0, cells := 0, slots := 0, locals := 0 }
theorem kdX7_all : yX7_all.cls = RX7 ∧ yX7_all.cls ≠ "java/lang/invoke/MethodHandle" ∧ yX7_all.cls ≠ "java/lang/invoke/VarHandle" ∧ (parseMethodDescriptor yX7_all.desc).map (fun d => d.parameters.length) = some 0 := ⟨rfl, by decide +kernel, by decide +kernel, by decide +kernel⟩
set_option maxRecDepth 100000 in
set_option maxHeartbeats 1000000 in
theorem kX7_all (l : Launch) (D : va_G) (cI cJ : ClassId) (mo : Nat) (nn : Nat) (mm : Nat) (me : Nat) (mj : Nat) (mw : Nat) (mp : Nat) (mu : Nat) (ke : Bool) (bd : Int32) (ml : Nat) (sq : Nat) (mq : Nat) (fi : Int32) (gu : Int32) (le : Int32) (cs : Int32) (ba : Bool) (ov : Int32) (m1 : Nat) (m2 : Nat) (m3 : Nat) (m4 : Nat) (lk : Int32) (sp : Bool) (bs : Int32) (bo : Int32) (m5 : Nat) (m6 : Nat) (m7 : Nat) (su : Int32) (sl : Int32) (m8 : Nat) (lo : Int32) (sh : Int32)  : Met l yX7_all wsX7_all rmX7_all (rPre D cI cJ [.ref mo] [(mo, .inr (7, moV (nI nn) (nI mm) me mj mw mp mu (zb (ke = true)) bd ml (nI sq) mq fi gu le cs (zb (ba = true)) ov m1 m2 m3 m4 lk (zb (sp = true)) bs bo m5 m6 m7 su sl m8 lo sh))]) (qRI (allI (nI nn))) 0 0 nA := by
  refine startR (cc := cX7_all) (maxL := 1) (ret := (some .int)) (by decide) rfl (Nat.le_of_ble_eq_true rfl) ?_
  intro p e s m args below meth c ls Q hQ hx hb hr hlocks hml hown hts hK hN hP hl hin
  have hown : s.vm.findClass RX7 = some m.cls := hown
  have hi_7 : ∀ w ∈ wsX70, w ∈ wsX7_all := by decide +kernel
  have hf_7 := hts (.fieldLink RX7 7 "FireNetsModel" "n" "I") (by decide +kernel)
  have hS : va_S nA s.heap s.heap [] := va_S.rf
  have hl : lv_has ls 1 [(0, .ref mo)] := hl
  have hP : va_P D vwCl [(mo, .inr (7, moV (nI nn) (nI mm) me mj mw mp mu (zb (ke = true)) bd ml (nI sq) mq fi gu le cs (zb (ba = true)) ov m1 m2 m3 m4 lk (zb (sp = true)) bs bo m5 m6 m7 su sl m8 lo sh))] s.heap := hP
  refine lv_iconst (v := 1) hx hb dX7_all_0 (by decide) ?_
  refine lv_aload_n hx hb dX7_all_1 rfl (lv_at hl 0 rfl) ?_
  refine va_get (D := D) (ci := 7) (v := .int (nI nn)) (C := RX7) (T := TX7) (N := 34) hx hb hts hi_7 hown hK hP 0 rfl rfl 0 (by decide) hf_7 (fun _ h9 => h9) rfl dX7_all_2 ?_
  refine lv_ishl hx hb dX7_all_5 ?_
  refine lv_iconst (v := 1) hx hb dX7_all_6 (by decide) ?_
  refine lv_isub hx hb dX7_all_7 ?_
  exact endRI hx hb hr hlocks hQ hS dX7_all_8 rfl
def rmX7_isNode : Room := { frames := 1, cells := 0, slots := 0, locals := 25 }
theorem kdX7_isNode : yX7_isNode.cls = RX7 ∧ yX7_isNode.cls ≠ "java/lang/invoke/MethodHandle" ∧ yX7_isNode.cls ≠ "java/lang/invoke/VarHandle" ∧ (parseMethodDescriptor yX7_isNode.desc).map (fun d => d.parameters.length) = some 1 := ⟨rfl, by decide +kernel, by decide +kernel, by decide +kernel⟩
set_option maxRecDepth 100000 in
set_option maxHeartbeats 1000000 in
theorem kX7_isNode (l : Launch) (D : va_G) (cI cJ : ClassId) (mo : Nat) (nn : Nat) (mm : Nat) (me : Nat) (mj : Nat) (mw : Nat) (mp : Nat) (mu : Nat) (ke : Bool) (bd : Int32) (ml : Nat) (sq : Nat) (mq : Nat) (fi : Int32) (gu : Int32) (le : Int32) (cs : Int32) (ba : Bool) (ov : Int32) (m1 : Nat) (m2 : Nat) (m3 : Nat) (m4 : Nat) (lk : Int32) (sp : Bool) (bs : Int32) (bo : Int32) (m5 : Nat) (m6 : Nat) (m7 : Nat) (su : Int32) (sl : Int32) (m8 : Nat) (lo : Int32) (sh : Int32) (k : Int32)  : Met l yX7_isNode wsX7_isNode rmX7_isNode (rPre D cI cJ [.ref mo, .int k] [(mo, .inr (7, moV (nI nn) (nI mm) me mj mw mp mu (zb (ke = true)) bd ml (nI sq) mq fi gu le cs (zb (ba = true)) ov m1 m2 m3 m4 lk (zb (sp = true)) bs bo m5 m6 m7 su sl m8 lo sh))]) (qRI (zb (0 ≤ k ∧ k ≤ nI nn - 1))) 0 0 nA := by
  refine startR (cc := cX7_isNode) (maxL := 2) (ret := (some .boolean)) (by decide) rfl (Nat.le_of_ble_eq_true rfl) ?_
  intro p e s m args below meth c ls Q hQ hx hb hr hlocks hml hown hts hK hN hP hl hin
  have hown : s.vm.findClass RX7 = some m.cls := hown
  have hi_7 : ∀ w ∈ wsX70, w ∈ wsX7_isNode := by decide +kernel
  have hf_7 := hts (.fieldLink RX7 7 "FireNetsModel" "n" "I") (by decide +kernel)
  have hS : va_S nA s.heap s.heap [] := va_S.rf
  have hl : lv_has ls 2 [(0, .ref mo), (1, .int k)] := hl
  have hP : va_P D vwCl [(mo, .inr (7, moV (nI nn) (nI mm) me mj mw mp mu (zb (ke = true)) bd ml (nI sq) mq fi gu le cs (zb (ba = true)) ov m1 m2 m3 m4 lk (zb (sp = true)) bs bo m5 m6 m7 su sl m8 lo sh))] s.heap := hP
  refine lv_iload_n hx hb dX7_isNode_0 rfl (lv_at hl 1 rfl) ?_
  refine lv_i2l (v := k.toInt64) hx hb dX7_isNode_1 rfl ?_
  refine lv_lconst (v := 0) hx hb dX7_isNode_2 (by decide) ?_
  refine lv_aload_n hx hb dX7_isNode_3 rfl (lv_at hl 0 rfl) ?_
  refine va_get (D := D) (ci := 7) (v := .int (nI nn)) (C := RX7) (T := TX7) (N := 34) hx hb hts hi_7 hown hK hP 0 rfl rfl 0 (by decide) hf_7 (fun _ h9 => h9) rfl dX7_isNode_4 ?_
  refine lv_iconst (v := 1) hx hb dX7_isNode_7 (by decide) ?_
  refine lv_isub hx hb dX7_isNode_8 ?_
  refine lv_i2l (v := ((nI nn) - 1).toInt64) hx hb dX7_isNode_9 rfl ?_
  refine goRI hP hS (va_runS (As := [.long k.toInt64, .long 0, .long (((nI nn) - 1).toInt64)]) (rest := []) ⟨hx, hb, hml, hown, hts⟩ (kX7_in l D cI cJ k.toInt64 0 (((nI nn) - 1).toInt64)) (va_cwS 3 hts gX7_isNode_X7_in rfl rfl rfl kdX7_in.2 ⟨Nat.le_of_ble_eq_true rfl, Nat.le_of_ble_eq_true rfl⟩) (preR hK hN hP [] rfl) rfl rfl hl.1 rfl (lv_room (Nat.le_of_ble_eq_true rfl)) dX7_isNode_10 ⟨Nat.zero_le _, Nat.zero_le _⟩) (fun H locs hP hS => ?_)
  refine r_top (x' := zb (0 ≤ k ∧ k ≤ nI nn - 1)) (zb_iff (in_c (by first | rfl | decide) (by first | rfl | decide))) ?_
  exact endRZ hx hb hr hlocks hQ hS dX7_isNode_13 zb_nar rfl
def rmX7_isFire : Room := { frames := 1, cells := 0, slots := 0, locals := 25 }
theorem kdX7_isFire : yX7_isFire.cls = RX7 ∧ yX7_isFire.cls ≠ "java/lang/invoke/MethodHandle" ∧ yX7_isFire.cls ≠ "java/lang/invoke/VarHandle" ∧ (parseMethodDescriptor yX7_isFire.desc).map (fun d => d.parameters.length) = some 1 := ⟨rfl, by decide +kernel, by decide +kernel, by decide +kernel⟩
set_option maxRecDepth 100000 in
set_option maxHeartbeats 1000000 in
theorem kX7_isFire (l : Launch) (D : va_G) (cI cJ : ClassId) (mo : Nat) (nn : Nat) (mm : Nat) (me : Nat) (mj : Nat) (mw : Nat) (mp : Nat) (mu : Nat) (ke : Bool) (bd : Int32) (ml : Nat) (sq : Nat) (mq : Nat) (fi : Int32) (gu : Int32) (le : Int32) (cs : Int32) (ba : Bool) (ov : Int32) (m1 : Nat) (m2 : Nat) (m3 : Nat) (m4 : Nat) (lk : Int32) (sp : Bool) (bs : Int32) (bo : Int32) (m5 : Nat) (m6 : Nat) (m7 : Nat) (su : Int32) (sl : Int32) (m8 : Nat) (lo : Int32) (sh : Int32) (k : Int32)  : Met l yX7_isFire wsX7_isFire rmX7_isFire (rPre D cI cJ [.ref mo, .int k] [(mo, .inr (7, moV (nI nn) (nI mm) me mj mw mp mu (zb (ke = true)) bd ml (nI sq) mq fi gu le cs (zb (ba = true)) ov m1 m2 m3 m4 lk (zb (sp = true)) bs bo m5 m6 m7 su sl m8 lo sh))]) (qRI (zb (1 ≤ k ∧ k ≤ allI (nI nn)))) 0 0 nA := by
  refine startR (cc := cX7_isFire) (maxL := 2) (ret := (some .boolean)) (by decide) rfl (Nat.le_of_ble_eq_true rfl) ?_
  intro p e s m args below meth c ls Q hQ hx hb hr hlocks hml hown hts hK hN hP hl hin
  have hown : s.vm.findClass RX7 = some m.cls := hown
  have hS : va_S nA s.heap s.heap [] := va_S.rf
  have hl : lv_has ls 2 [(0, .ref mo), (1, .int k)] := hl
  have hP : va_P D vwCl [(mo, .inr (7, moV (nI nn) (nI mm) me mj mw mp mu (zb (ke = true)) bd ml (nI sq) mq fi gu le cs (zb (ba = true)) ov m1 m2 m3 m4 lk (zb (sp = true)) bs bo m5 m6 m7 su sl m8 lo sh))] s.heap := hP
  refine lv_iload_n hx hb dX7_isFire_0 rfl (lv_at hl 1 rfl) ?_
  refine lv_i2l (v := k.toInt64) hx hb dX7_isFire_1 rfl ?_
  refine lv_lconst (v := 1) hx hb dX7_isFire_2 (by decide) ?_
  refine lv_aload_n hx hb dX7_isFire_3 rfl (lv_at hl 0 rfl) ?_
  refine goRI hP hS (va_runV (As := []) (rest := [.long 1, .long k.toInt64]) ⟨hx, hb, hml, hown, hts⟩ (kX7_all l D cI cJ mo nn mm me mj mw mp mu ke bd ml sq mq fi gu le cs ba ov m1 m2 m3 m4 lk sp bs bo m5 m6 m7 su sl m8 lo sh) (cwV 0 hts gX7_isFire_X7_all rfl rfl rfl kdX7_all ⟨Nat.le_of_ble_eq_true rfl, Nat.le_of_ble_eq_true rfl⟩) (preRV hK hN hP 0 (ci := 7) rfl rfl rfl [0] rfl) rfl rfl hl.1 rfl (lv_room (Nat.le_of_ble_eq_true rfl)) dX7_isFire_4 ⟨Nat.zero_le _, Nat.zero_le _⟩) (fun H locs hP hS => ?_)
  refine lv_i2l (v := (allI (nI nn)).toInt64) hx hb dX7_isFire_7 rfl ?_
  refine goRI hP hS (va_runS (As := [.long k.toInt64, .long 1, .long ((allI (nI nn)).toInt64)]) (rest := []) ⟨hx, hb, hml, hown, hts⟩ (kX7_in l D cI cJ k.toInt64 1 ((allI (nI nn)).toInt64)) (va_cwS 3 hts gX7_isFire_X7_in rfl rfl rfl kdX7_in.2 ⟨Nat.le_of_ble_eq_true rfl, Nat.le_of_ble_eq_true rfl⟩) (preR hK hN hP [] rfl) rfl rfl hl.1 rfl (lv_room (Nat.le_of_ble_eq_true rfl)) dX7_isFire_8 ⟨Nat.zero_le _, Nat.zero_le _⟩) (fun H locs hP hS => ?_)
  refine r_top (x' := zb (1 ≤ k ∧ k ≤ allI (nI nn))) (zb_iff (in_c (by first | rfl | decide) (by first | rfl | decide))) ?_
  exact endRZ hx hb hr hlocks hQ hS dX7_isFire_11 zb_nar rfl
def rmX7_isRule : Room := { frames := 1, cells := 0, slots := 0, locals := 25 }
theorem kdX7_isRule : yX7_isRule.cls = RX7 ∧ yX7_isRule.cls ≠ "java/lang/invoke/MethodHandle" ∧ yX7_isRule.cls ≠ "java/lang/invoke/VarHandle" ∧ (parseMethodDescriptor yX7_isRule.desc).map (fun d => d.parameters.length) = some 1 := ⟨rfl, by decide +kernel, by decide +kernel, by decide +kernel⟩
set_option maxRecDepth 100000 in
set_option maxHeartbeats 1000000 in
theorem kX7_isRule (l : Launch) (D : va_G) (cI cJ : ClassId) (v : Int32)  : Met l yX7_isRule wsX7_isRule rmX7_isRule (rPre D cI cJ [.int v] []) (qRI (zb (0 ≤ v ∧ v ≤ 2))) 0 0 nA := by
  refine startR (cc := cX7_isRule) (maxL := 1) (ret := (some .boolean)) (by decide) rfl (Nat.le_of_ble_eq_true rfl) ?_
  intro p e s m args below meth c ls Q hQ hx hb hr hlocks hml hown hts hK hN hP hl hin
  have hown : s.vm.findClass RX7 = some m.cls := hown
  have hc_195 := hts (.constantLong RX7 195 (2)) (by decide +kernel)
  have hS : va_S nA s.heap s.heap [] := va_S.rf
  have hl : lv_has ls 1 [(0, .int v)] := hl
  have hP : va_P D vwCl [] s.heap := hP
  refine lv_iload_n hx hb dX7_isRule_0 rfl (lv_at hl 0 rfl) ?_
  refine lv_i2l (v := v.toInt64) hx hb dX7_isRule_1 rfl ?_
  refine lv_lconst (v := 0) hx hb dX7_isRule_2 (by decide) ?_
  refine lv_ldc2 (v := 2) hx hb hown hc_195 dX7_isRule_3 ?_
  refine goRI hP hS (va_runS (As := [.long v.toInt64, .long 0, .long 2]) (rest := []) ⟨hx, hb, hml, hown, hts⟩ (kX7_in l D cI cJ v.toInt64 0 2) (va_cwS 3 hts gX7_isRule_X7_in rfl rfl rfl kdX7_in.2 ⟨Nat.le_of_ble_eq_true rfl, Nat.le_of_ble_eq_true rfl⟩) (preR hK hN hP [] rfl) rfl rfl hl.1 rfl (lv_room (Nat.le_of_ble_eq_true rfl)) dX7_isRule_6 ⟨Nat.zero_le _, Nat.zero_le _⟩) (fun H locs hP hS => ?_)
  refine r_top (x' := zb (0 ≤ v ∧ v ≤ 2)) (zb_iff (in_c (by first | rfl | decide) (by first | rfl | decide))) ?_
  exact endRZ hx hb hr hlocks hQ hS dX7_isRule_9 zb_nar rfl
def rmX7_worthOf : Room := { frames := 0, cells := 0, slots := 0, locals := 0 }
theorem kdX7_worthOf : yX7_worthOf.cls = RX7 ∧ yX7_worthOf.cls ≠ "java/lang/invoke/MethodHandle" ∧ yX7_worthOf.cls ≠ "java/lang/invoke/VarHandle" ∧ (parseMethodDescriptor yX7_worthOf.desc).map (fun d => d.parameters.length) = some 1 := ⟨rfl, by decide +kernel, by decide +kernel, by decide +kernel⟩
set_option maxRecDepth 100000 in
set_option maxHeartbeats 1000000 in
theorem kX7_worthOf (l : Launch) (D : va_G) (cI cJ : ClassId) (mo : Nat) (nn : Nat) (mm : Nat) (me : Nat) (mj : Nat) (mw : Nat) (mp : Nat) (mu : Nat) (ke : Bool) (bd : Int32) (ml : Nat) (sq : Nat) (mq : Nat) (fi : Int32) (gu : Int32) (le : Int32) (cs : Int32) (ba : Bool) (ov : Int32) (m1 : Nat) (m2 : Nat) (m3 : Nat) (m4 : Nat) (lk : Int32) (sp : Bool) (bs : Int32) (bo : Int32) (m5 : Nat) (m6 : Nat) (m7 : Nat) (su : Int32) (sl : Int32) (m8 : Nat) (lo : Int32) (sh : Int32) (wo : Row) (v : Int32) (hn10 : nn ≤ 10) : Met l yX7_worthOf wsX7_worthOf rmX7_worthOf (rPre D cI cJ [.ref mo, .int v] [(mo, .inr (7, moV (nI nn) (nI mm) me mj mw mp mu (zb (ke = true)) bd ml (nI sq) mq fi gu le cs (zb (ba = true)) ov m1 m2 m3 m4 lk (zb (sp = true)) bs bo m5 m6 m7 su sl m8 lo sh)), (mw, .inl (cI, 10, .inl wo))]) (qRI (sumM wo v nn)) 0 0 nA := by
  refine startR (cc := cX7_worthOf) (maxL := 4) (ret := (some .int)) (by decide) rfl (Nat.le_of_ble_eq_true rfl) ?_
  intro p e s m args below meth c ls Q hQ hx hb hr hlocks hml hown hts hK hN hP hl hin
  have hown : s.vm.findClass RX7 = some m.cls := hown
  have hi_7 : ∀ w ∈ wsX70, w ∈ wsX7_worthOf := by decide +kernel
  have hf_7 := hts (.fieldLink RX7 7 "FireNetsModel" "n" "I") (by decide +kernel)
  have hf_20 := hts (.fieldLink RX7 20 "FireNetsModel" "worth" "[I") (by decide +kernel)
  have hS : va_S nA s.heap s.heap [] := va_S.rf
  have hl : lv_has ls 4 [(0, .ref mo), (1, .int v)] := hl
  have hP : va_P D vwCl [(mo, .inr (7, moV (nI nn) (nI mm) me mj mw mp mu (zb (ke = true)) bd ml (nI sq) mq fi gu le cs (zb (ba = true)) ov m1 m2 m3 m4 lk (zb (sp = true)) bs bo m5 m6 m7 su sl m8 lo sh)), (mw, .inl (cI, 10, .inl wo))] s.heap := hP
  refine lv_iconst (v := 0) hx hb dX7_worthOf_0 (by decide) ?_
  refine lv_istore_n (lv' := [(2, .int 0), (0, .ref mo), (1, .int v)]) hx hb dX7_worthOf_1 rfl hl (by decide) rfl (fun ls hl => ?_)
  refine lv_iconst (v := 0) hx hb dX7_worthOf_2 (by decide) ?_
  refine lv_istore_n (lv' := [(3, .int 0), (2, .int 0), (0, .ref mo), (1, .int v)]) hx hb dX7_worthOf_3 rfl hl (by decide) rfl (fun ls hl => ?_)
  have lp : ∀ (fu : Nat) (k : Nat), (k ≤ nn) → nn - k < fu → ∀ (ls : Array Slot) (H : Heap) (locs : List Loc), lv_has ls 4 [(0, .ref mo), (1, .int v), (2, .int (sumM wo v k)), (3, .int (nI k))] → va_P D vwCl [(mo, .inr (7, moV (nI nn) (nI mm) me mj mw mp mu (zb (ke = true)) bd ml (nI sq) mq fi gu le cs (zb (ba = true)) ov m1 m2 m3 m4 lk (zb (sp = true)) bs bo m5 m6 m7 su sl m8 lo sh)), (mw, .inl (cI, 10, .inl wo))] H → va_S nA s.heap H locs → W p l e rmX7_worthOf s m args below meth c H locs 0 0 Q (F0 m 4 ls []) := by
    intro fu
    induction fu with
    | zero => intro k hk hf; exact absurd hf (Nat.not_lt_zero _)
    | succ fu ih_lp =>
      intro k hk hf ls H locs hl hP hS
      refine lv_iload_n hx hb dX7_worthOf_4 rfl (lv_at hl 3 rfl) ?_
      refine lv_aload_n hx hb dX7_worthOf_5 rfl (lv_at hl 0 rfl) ?_
      refine va_get (D := D) (ci := 7) (v := .int (nI nn)) (C := RX7) (T := TX7) (N := 34) hx hb hts hi_7 hown hK hP 0 rfl rfl 0 (by decide) hf_7 (fun _ h9 => h9) rfl dX7_worthOf_6 ?_
      refine r_icmp_ge (tgt := 33) hx hb k nn dX7_worthOf_9 (by decide) rfl rfl (by omega) (by omega) (fun c_9 => ?_) (fun c_9 => ?_)
      · refine lv_iload_n hx hb dX7_worthOf_33 rfl (lv_at hl 2 rfl) ?_
        exact endRI hx hb hr hlocks hQ hS dX7_worthOf_34 (by rw [show nn = k by omega])
      · refine lv_iload_n hx hb dX7_worthOf_12 rfl (lv_at hl 2 rfl) ?_
        refine lv_iload_n hx hb dX7_worthOf_13 rfl (lv_at hl 1 rfl) ?_
        refine lv_iload_n hx hb dX7_worthOf_14 rfl (lv_at hl 3 rfl) ?_
        refine lv_ishr hx hb dX7_worthOf_15 ?_
        refine lv_iconst (v := 1) hx hb dX7_worthOf_16 (by decide) ?_
        refine lv_iand hx hb dX7_worthOf_17 ?_
        refine lv_aload_n hx hb dX7_worthOf_18 rfl (lv_at hl 0 rfl) ?_
        refine va_get (D := D) (ci := 7) (v := .ref mw) (C := RX7) (T := TX7) (N := 34) hx hb hts hi_7 hown hK hP 0 rfl rfl 4 (by decide) hf_20 (fun _ h9 => h9) rfl dX7_worthOf_19 ?_
        refine lv_iload_n hx hb dX7_worthOf_22 rfl (lv_at hl 3 rfl) ?_
        refine r_iald hx hb hK hP 1 rfl k rfl (by omega) (by omega) dX7_worthOf_23 ?_
        refine lv_imul hx hb dX7_worthOf_24 ?_
        refine lv_iadd hx hb dX7_worthOf_25 ?_
        refine lv_istore_n (lv' := [(2, .int ((sumM wo v k) + (((v >>> ((nI k) &&& 31)) &&& 1) * (wo k)))), (0, .ref mo), (1, .int v), (3, .int (nI k))]) hx hb dX7_worthOf_26 rfl hl (by decide) rfl (fun ls hl => ?_)
        refine r_iinc (lv' := [(3, .int (nI (k + 1))), (2, .int ((sumM wo v k) + (((v >>> ((nI k) &&& 31)) &&& 1) * (wo k)))), (0, .ref mo), (1, .int v)]) hx hb 3 k dX7_worthOf_27 hl rfl (by decide) rfl (fun ls hl => ?_)
        refine lv_goto (tgt := 4) hx hb dX7_worthOf_30 (by decide) ?_
        exact ih_lp (k + 1) (by omega) (by omega) ls _ _ (lv_sub hl [2, 3, 1, 0] rfl) hP hS
  exact lp _ 0 (by omega) (Nat.lt_succ_self _) ls _ _ (lv_sub hl [2, 3, 1, 0] rfl) hP hS
def rmX7_priceOf : Room := { frames := 0, cells := 0, slots := 0, locals := 0 }
theorem kdX7_priceOf : yX7_priceOf.cls = RX7 ∧ yX7_priceOf.cls ≠ "java/lang/invoke/MethodHandle" ∧ yX7_priceOf.cls ≠ "java/lang/invoke/VarHandle" ∧ (parseMethodDescriptor yX7_priceOf.desc).map (fun d => d.parameters.length) = some 1 := ⟨rfl, by decide +kernel, by decide +kernel, by decide +kernel⟩
set_option maxRecDepth 100000 in
set_option maxHeartbeats 1000000 in
theorem kX7_priceOf (l : Launch) (D : va_G) (cI cJ : ClassId) (mo : Nat) (nn : Nat) (mm : Nat) (me : Nat) (mj : Nat) (mw : Nat) (mp : Nat) (mu : Nat) (ke : Bool) (bd : Int32) (ml : Nat) (sq : Nat) (mq : Nat) (fi : Int32) (gu : Int32) (le : Int32) (cs : Int32) (ba : Bool) (ov : Int32) (m1 : Nat) (m2 : Nat) (m3 : Nat) (m4 : Nat) (lk : Int32) (sp : Bool) (bs : Int32) (bo : Int32) (m5 : Nat) (m6 : Nat) (m7 : Nat) (su : Int32) (sl : Int32) (m8 : Nat) (lo : Int32) (sh : Int32) (pr : Row) (v : Int32) (hn10 : nn ≤ 10) : Met l yX7_priceOf wsX7_priceOf rmX7_priceOf (rPre D cI cJ [.ref mo, .int v] [(mo, .inr (7, moV (nI nn) (nI mm) me mj mw mp mu (zb (ke = true)) bd ml (nI sq) mq fi gu le cs (zb (ba = true)) ov m1 m2 m3 m4 lk (zb (sp = true)) bs bo m5 m6 m7 su sl m8 lo sh)), (mp, .inl (cI, 10, .inl pr))]) (qRI (sumM pr v nn)) 0 0 nA := by
  refine startR (cc := cX7_priceOf) (maxL := 4) (ret := (some .int)) (by decide) rfl (Nat.le_of_ble_eq_true rfl) ?_
  intro p e s m args below meth c ls Q hQ hx hb hr hlocks hml hown hts hK hN hP hl hin
  have hown : s.vm.findClass RX7 = some m.cls := hown
  have hi_7 : ∀ w ∈ wsX70, w ∈ wsX7_priceOf := by decide +kernel
  have hf_7 := hts (.fieldLink RX7 7 "FireNetsModel" "n" "I") (by decide +kernel)
  have hf_23 := hts (.fieldLink RX7 23 "FireNetsModel" "price" "[I") (by decide +kernel)
  have hS : va_S nA s.heap s.heap [] := va_S.rf
  have hl : lv_has ls 4 [(0, .ref mo), (1, .int v)] := hl
  have hP : va_P D vwCl [(mo, .inr (7, moV (nI nn) (nI mm) me mj mw mp mu (zb (ke = true)) bd ml (nI sq) mq fi gu le cs (zb (ba = true)) ov m1 m2 m3 m4 lk (zb (sp = true)) bs bo m5 m6 m7 su sl m8 lo sh)), (mp, .inl (cI, 10, .inl pr))] s.heap := hP
  refine lv_iconst (v := 0) hx hb dX7_priceOf_0 (by decide) ?_
  refine lv_istore_n (lv' := [(2, .int 0), (0, .ref mo), (1, .int v)]) hx hb dX7_priceOf_1 rfl hl (by decide) rfl (fun ls hl => ?_)
  refine lv_iconst (v := 0) hx hb dX7_priceOf_2 (by decide) ?_
  refine lv_istore_n (lv' := [(3, .int 0), (2, .int 0), (0, .ref mo), (1, .int v)]) hx hb dX7_priceOf_3 rfl hl (by decide) rfl (fun ls hl => ?_)
  have lp : ∀ (fu : Nat) (k : Nat), (k ≤ nn) → nn - k < fu → ∀ (ls : Array Slot) (H : Heap) (locs : List Loc), lv_has ls 4 [(0, .ref mo), (1, .int v), (2, .int (sumM pr v k)), (3, .int (nI k))] → va_P D vwCl [(mo, .inr (7, moV (nI nn) (nI mm) me mj mw mp mu (zb (ke = true)) bd ml (nI sq) mq fi gu le cs (zb (ba = true)) ov m1 m2 m3 m4 lk (zb (sp = true)) bs bo m5 m6 m7 su sl m8 lo sh)), (mp, .inl (cI, 10, .inl pr))] H → va_S nA s.heap H locs → W p l e rmX7_priceOf s m args below meth c H locs 0 0 Q (F0 m 4 ls []) := by
    intro fu
    induction fu with
    | zero => intro k hk hf; exact absurd hf (Nat.not_lt_zero _)
    | succ fu ih_lp =>
      intro k hk hf ls H locs hl hP hS
      refine lv_iload_n hx hb dX7_priceOf_4 rfl (lv_at hl 3 rfl) ?_
      refine lv_aload_n hx hb dX7_priceOf_5 rfl (lv_at hl 0 rfl) ?_
      refine va_get (D := D) (ci := 7) (v := .int (nI nn)) (C := RX7) (T := TX7) (N := 34) hx hb hts hi_7 hown hK hP 0 rfl rfl 0 (by decide) hf_7 (fun _ h9 => h9) rfl dX7_priceOf_6 ?_
      refine r_icmp_ge (tgt := 33) hx hb k nn dX7_priceOf_9 (by decide) rfl rfl (by omega) (by omega) (fun c_9 => ?_) (fun c_9 => ?_)
      · refine lv_iload_n hx hb dX7_priceOf_33 rfl (lv_at hl 2 rfl) ?_
        exact endRI hx hb hr hlocks hQ hS dX7_priceOf_34 (by rw [show nn = k by omega])
      · refine lv_iload_n hx hb dX7_priceOf_12 rfl (lv_at hl 2 rfl) ?_
        refine lv_iload_n hx hb dX7_priceOf_13 rfl (lv_at hl 1 rfl) ?_
        refine lv_iload_n hx hb dX7_priceOf_14 rfl (lv_at hl 3 rfl) ?_
        refine lv_ishr hx hb dX7_priceOf_15 ?_
        refine lv_iconst (v := 1) hx hb dX7_priceOf_16 (by decide) ?_
        refine lv_iand hx hb dX7_priceOf_17 ?_
        refine lv_aload_n hx hb dX7_priceOf_18 rfl (lv_at hl 0 rfl) ?_
        refine va_get (D := D) (ci := 7) (v := .ref mp) (C := RX7) (T := TX7) (N := 34) hx hb hts hi_7 hown hK hP 0 rfl rfl 5 (by decide) hf_23 (fun _ h9 => h9) rfl dX7_priceOf_19 ?_
        refine lv_iload_n hx hb dX7_priceOf_22 rfl (lv_at hl 3 rfl) ?_
        refine r_iald hx hb hK hP 1 rfl k rfl (by omega) (by omega) dX7_priceOf_23 ?_
        refine lv_imul hx hb dX7_priceOf_24 ?_
        refine lv_iadd hx hb dX7_priceOf_25 ?_
        refine lv_istore_n (lv' := [(2, .int ((sumM pr v k) + (((v >>> ((nI k) &&& 31)) &&& 1) * (pr k)))), (0, .ref mo), (1, .int v), (3, .int (nI k))]) hx hb dX7_priceOf_26 rfl hl (by decide) rfl (fun ls hl => ?_)
        refine r_iinc (lv' := [(3, .int (nI (k + 1))), (2, .int ((sumM pr v k) + (((v >>> ((nI k) &&& 31)) &&& 1) * (pr k)))), (0, .ref mo), (1, .int v)]) hx hb 3 k dX7_priceOf_27 hl rfl (by decide) rfl (fun ls hl => ?_)
        refine lv_goto (tgt := 4) hx hb dX7_priceOf_30 (by decide) ?_
        exact ih_lp (k + 1) (by omega) (by omega) ls _ _ (lv_sub hl [2, 3, 1, 0] rfl) hP hS
  exact lp _ 0 (by omega) (Nat.lt_succ_self _) ls _ _ (lv_sub hl [2, 3, 1, 0] rfl) hP hS
def rmX7_clear : Room := { frames := 0, cells := 0, slots := 0, locals := 0 }
theorem kdX7_clear : yX7_clear.cls = RX7 ∧ yX7_clear.cls ≠ "java/lang/invoke/MethodHandle" ∧ yX7_clear.cls ≠ "java/lang/invoke/VarHandle" ∧ (parseMethodDescriptor yX7_clear.desc).map (fun d => d.parameters.length) = some 0 := ⟨rfl, by decide +kernel, by decide +kernel, by decide +kernel⟩
set_option maxRecDepth 100000 in
set_option maxHeartbeats 1000000 in
theorem kX7_clear (l : Launch) (D : va_G) (cI cJ : ClassId) (mo : Nat) (nn : Nat) (mm : Nat) (me : Nat) (mj : Nat) (mw : Nat) (mp : Nat) (mu : Nat) (ke : Bool) (bd : Int32) (ml : Nat) (sq : Nat) (mq : Nat) (fi : Int32) (gu : Int32) (le : Int32) (cs : Int32) (ba : Bool) (ov : Int32) (m1 : Nat) (m2 : Nat) (m3 : Nat) (m4 : Nat) (lk : Int32) (sp : Bool) (bs : Int32) (bo : Int32) (m5 : Nat) (m6 : Nat) (m7 : Nat) (su : Int32) (sl : Int32) (m8 : Nat) (lo : Int32) (sh : Int32) (ne : Row) (wo : Row) (pr : Row) (pl : Row)  : Met l yX7_clear wsX7_clear rmX7_clear (mPre D cI cJ [.ref mo] [(mo, .inr (7, moV (nI nn) (nI mm) me mj mw mp mu (zb (ke = true)) bd ml (nI sq) mq fi gu le cs (zb (ba = true)) ov m1 m2 m3 m4 lk (zb (sp = true)) bs bo m5 m6 m7 su sl m8 lo sh)), (mj, .inl (cI, 10, .inl ne)), (mw, .inl (cI, 10, .inl wo)), (mp, .inl (cI, 10, .inl pr)), (ml, .inl (cI, 9, .inl pl))]) (mQv D (fun (_ : Unit) => True) (fun (_ : Unit) => [(mo, .inr (7, moV (nI nn) (nI 0) me mj mw mp mu (zb (ke = true)) bd ml (nI sq) mq fi gu le cs (zb (ba = true)) ov m1 m2 m3 m4 lk (zb (sp = true)) bs bo m5 m6 m7 su sl m8 lo sh)), (mj, .inl (cI, 10, .inl (fillF ne 0 10))), (mw, .inl (cI, 10, .inl (fillF wo 1 10))), (mp, .inl (cI, 10, .inl (fillF pr 1 10))), (ml, .inl (cI, 9, .inl (fillF pl 0 9)))]) [(mo, .inr (7, moV (nI nn) (nI mm) me mj mw mp mu (zb (ke = true)) bd ml (nI sq) mq fi gu le cs (zb (ba = true)) ov m1 m2 m3 m4 lk (zb (sp = true)) bs bo m5 m6 m7 su sl m8 lo sh)), (mj, .inl (cI, 10, .inl ne)), (mw, .inl (cI, 10, .inl wo)), (mp, .inl (cI, 10, .inl pr)), (ml, .inl (cI, 9, .inl pl))]) 0 0 (mA [(mo, .inr (7, moV (nI nn) (nI mm) me mj mw mp mu (zb (ke = true)) bd ml (nI sq) mq fi gu le cs (zb (ba = true)) ov m1 m2 m3 m4 lk (zb (sp = true)) bs bo m5 m6 m7 su sl m8 lo sh)), (mj, .inl (cI, 10, .inl ne)), (mw, .inl (cI, 10, .inl wo)), (mp, .inl (cI, 10, .inl pr)), (ml, .inl (cI, 9, .inl pl))]) := by
  refine startM (cc := cX7_clear) (maxL := 2) (ret := none) (by decide) rfl (Nat.le_of_ble_eq_true rfl) ?_
  intro p e s m args below meth c ls Q A hA hQ hx hb hr hlocks hml hown hts hK hN hP hD hl hin
  have hown : s.vm.findClass RX7 = some m.cls := hown
  have hi_7 : ∀ w ∈ wsX70, w ∈ wsX7_clear := by decide +kernel
  have hf_17 := hts (.fieldLink RX7 17 "FireNetsModel" "joined" "[I") (by decide +kernel)
  have hf_20 := hts (.fieldLink RX7 20 "FireNetsModel" "worth" "[I") (by decide +kernel)
  have hf_23 := hts (.fieldLink RX7 23 "FireNetsModel" "price" "[I") (by decide +kernel)
  have hf_32 := hts (.fieldLink RX7 32 "FireNetsModel" "plan" "[I") (by decide +kernel)
  have hf_65 := hts (.fieldLink RX7 65 "FireNetsModel" "lines" "I") (by decide +kernel)
  have hS : va_S A s.heap s.heap [] := va_S.rf
  have hl : lv_has ls 2 [(0, .ref mo)] := hl
  have hP : va_P D vwCl [(mo, .inr (7, moV (nI nn) (nI mm) me mj mw mp mu (zb (ke = true)) bd ml (nI sq) mq fi gu le cs (zb (ba = true)) ov m1 m2 m3 m4 lk (zb (sp = true)) bs bo m5 m6 m7 su sl m8 lo sh)), (mj, .inl (cI, 10, .inl ne)), (mw, .inl (cI, 10, .inl wo)), (mp, .inl (cI, 10, .inl pr)), (ml, .inl (cI, 9, .inl pl))] s.heap := hP
  refine lv_aload_n hx hb dX7_clear_0 rfl (lv_at hl 0 rfl) ?_
  refine lv_iconst (v := 0) hx hb dX7_clear_1 (by decide) ?_
  refine va_put (D := D) (ci := 7) (v := .int 0) (ty := .int) (C := RX7) (T := TX7) (N := 34) hx hb hts hi_7 tyX7 tyX7_ok nmX7 hown hK hP hD hS 0 rfl rfl 1 (by decide) hf_65 (fun _ h9 => h9) rfl (by decide +kernel) rfl rfl (Nat.le_of_ble_eq_true rfl) dX7_clear_2 (fun H locs hP hD hS => ?_)
  have hP : va_P D vwCl [(mo, .inr (7, moV (nI nn) 0 me mj mw mp mu (zb (ke = true)) bd ml (nI sq) mq fi gu le cs (zb (ba = true)) ov m1 m2 m3 m4 lk (zb (sp = true)) bs bo m5 m6 m7 su sl m8 lo sh)), (mj, .inl (cI, 10, .inl ne)), (mw, .inl (cI, 10, .inl wo)), (mp, .inl (cI, 10, .inl pr)), (ml, .inl (cI, 9, .inl pl))] H := hP
  have hD : va_D A [(mo, .inr (7, moV (nI nn) 0 me mj mw mp mu (zb (ke = true)) bd ml (nI sq) mq fi gu le cs (zb (ba = true)) ov m1 m2 m3 m4 lk (zb (sp = true)) bs bo m5 m6 m7 su sl m8 lo sh)), (mj, .inl (cI, 10, .inl ne)), (mw, .inl (cI, 10, .inl wo)), (mp, .inl (cI, 10, .inl pr)), (ml, .inl (cI, 9, .inl pl))] := hD
  refine lv_iconst (v := 0) hx hb dX7_clear_5 (by decide) ?_
  refine lv_istore_n (lv' := [(1, .int 0), (0, .ref mo)]) hx hb dX7_clear_6 rfl hl (by decide) rfl (fun ls hl => ?_)
  have lp : ∀ (fu : Nat) (k : Nat), (k ≤ 10) → 10 - k < fu → ∀ (ls : Array Slot) (H : Heap) (locs : List Loc), lv_has ls 2 [(0, .ref mo), (1, .int (nI k))] → va_P D vwCl [(mo, .inr (7, moV (nI nn) (nI 0) me mj mw mp mu (zb (ke = true)) bd ml (nI sq) mq fi gu le cs (zb (ba = true)) ov m1 m2 m3 m4 lk (zb (sp = true)) bs bo m5 m6 m7 su sl m8 lo sh)), (mj, .inl (cI, 10, .inl (fillF ne 0 k))), (mw, .inl (cI, 10, .inl (fillF wo 1 k))), (mp, .inl (cI, 10, .inl (fillF pr 1 k))), (ml, .inl (cI, 9, .inl pl))] H → va_D A [(mo, .inr (7, moV (nI nn) (nI 0) me mj mw mp mu (zb (ke = true)) bd ml (nI sq) mq fi gu le cs (zb (ba = true)) ov m1 m2 m3 m4 lk (zb (sp = true)) bs bo m5 m6 m7 su sl m8 lo sh)), (mj, .inl (cI, 10, .inl (fillF ne 0 k))), (mw, .inl (cI, 10, .inl (fillF wo 1 k))), (mp, .inl (cI, 10, .inl (fillF pr 1 k))), (ml, .inl (cI, 9, .inl pl))] → va_S A s.heap H locs → W p l e rmX7_clear s m args below meth c H locs 0 0 Q (F0 m 7 ls []) := by
    intro fu
    induction fu with
    | zero => intro k hk hf; exact absurd hf (Nat.not_lt_zero _)
    | succ fu ih_lp =>
      intro k hk hf ls H locs hl hP hD hS
      refine lv_iload_n hx hb dX7_clear_7 rfl (lv_at hl 1 rfl) ?_
      refine lv_bipush (v := 10) hx hb dX7_clear_8 (by decide) ?_
      refine r_icmp_ge (tgt := 40) hx hb k 10 dX7_clear_10 (by decide) rfl rfl (by omega) (by omega) (fun c_10 => ?_) (fun c_10 => ?_)
      · refine lv_iconst (v := 0) hx hb dX7_clear_40 (by decide) ?_
        refine lv_istore_n (lv' := [(1, .int 0), (0, .ref mo)]) hx hb dX7_clear_41 rfl hl (by decide) rfl (fun ls hl => ?_)
        have lq : ∀ (fu : Nat) (k : Nat), (k ≤ 9) → 9 - k < fu → ∀ (ls : Array Slot) (H : Heap) (locs : List Loc), lv_has ls 2 [(0, .ref mo), (1, .int (nI k))] → va_P D vwCl [(mo, .inr (7, moV (nI nn) (nI 0) me mj mw mp mu (zb (ke = true)) bd ml (nI sq) mq fi gu le cs (zb (ba = true)) ov m1 m2 m3 m4 lk (zb (sp = true)) bs bo m5 m6 m7 su sl m8 lo sh)), (mj, .inl (cI, 10, .inl (fillF ne 0 10))), (mw, .inl (cI, 10, .inl (fillF wo 1 10))), (mp, .inl (cI, 10, .inl (fillF pr 1 10))), (ml, .inl (cI, 9, .inl (fillF pl 0 k)))] H → va_D A [(mo, .inr (7, moV (nI nn) (nI 0) me mj mw mp mu (zb (ke = true)) bd ml (nI sq) mq fi gu le cs (zb (ba = true)) ov m1 m2 m3 m4 lk (zb (sp = true)) bs bo m5 m6 m7 su sl m8 lo sh)), (mj, .inl (cI, 10, .inl (fillF ne 0 10))), (mw, .inl (cI, 10, .inl (fillF wo 1 10))), (mp, .inl (cI, 10, .inl (fillF pr 1 10))), (ml, .inl (cI, 9, .inl (fillF pl 0 k)))] → va_S A s.heap H locs → W p l e rmX7_clear s m args below meth c H locs 0 0 Q (F0 m 42 ls []) := by
          intro fu
          induction fu with
          | zero => intro k hk hf; exact absurd hf (Nat.not_lt_zero _)
          | succ fu ih_lq =>
            intro k hk hf ls H locs hl hP hD hS
            refine lv_iload_n hx hb dX7_clear_42 rfl (lv_at hl 1 rfl) ?_
            refine lv_bipush (v := 9) hx hb dX7_clear_43 (by decide) ?_
            refine r_icmp_ge (tgt := 61) hx hb k 9 dX7_clear_45 (by decide) rfl rfl (by omega) (by omega) (fun c_45 => ?_) (fun c_45 => ?_)
            · exact endMV () hx hb hr hlocks hA hQ hS hP dX7_clear_61 (by rw [show k = 9 by omega]) trivial
            · refine lv_aload_n hx hb dX7_clear_48 rfl (lv_at hl 0 rfl) ?_
              refine va_get (D := D) (ci := 7) (v := .ref ml) (C := RX7) (T := TX7) (N := 34) hx hb hts hi_7 hown hK hP 0 rfl rfl 9 (by decide) hf_32 (fun _ h9 => h9) rfl dX7_clear_49 ?_
              refine lv_iload_n hx hb dX7_clear_52 rfl (lv_at hl 1 rfl) ?_
              refine lv_iconst (v := 0) hx hb dX7_clear_53 (by decide) ?_
              refine r_iast hx hb hK hP hD hS 4 rfl k rfl (by omega) (by omega) dX7_clear_54 (fun H locs hP hD hS => ?_)
              have hP : va_P D vwCl [(mo, .inr (7, moV (nI nn) (nI 0) me mj mw mp mu (zb (ke = true)) bd ml (nI sq) mq fi gu le cs (zb (ba = true)) ov m1 m2 m3 m4 lk (zb (sp = true)) bs bo m5 m6 m7 su sl m8 lo sh)), (mj, .inl (cI, 10, .inl (fillF ne 0 10))), (mw, .inl (cI, 10, .inl (fillF wo 1 10))), (mp, .inl (cI, 10, .inl (fillF pr 1 10))), (ml, .inl (cI, 9, .inl (upd (fillF pl 0 k) k 0)))] H := hP
              have hD : va_D A [(mo, .inr (7, moV (nI nn) (nI 0) me mj mw mp mu (zb (ke = true)) bd ml (nI sq) mq fi gu le cs (zb (ba = true)) ov m1 m2 m3 m4 lk (zb (sp = true)) bs bo m5 m6 m7 su sl m8 lo sh)), (mj, .inl (cI, 10, .inl (fillF ne 0 10))), (mw, .inl (cI, 10, .inl (fillF wo 1 10))), (mp, .inl (cI, 10, .inl (fillF pr 1 10))), (ml, .inl (cI, 9, .inl (upd (fillF pl 0 k) k 0)))] := hD
              refine r_iinc (lv' := [(1, .int (nI (k + 1))), (0, .ref mo)]) hx hb 1 k dX7_clear_55 hl rfl (by decide) rfl (fun ls hl => ?_)
              refine lv_goto (tgt := 42) hx hb dX7_clear_58 (by decide) ?_
              exact ih_lq (k + 1) (by omega) (by omega) ls _ _ (lv_sub hl [1, 0] rfl) (by rw [fillF_S pl 0 k]; exact hP) (by rw [fillF_S pl 0 k]; exact hD) hS
        exact lq _ 0 (by omega) (Nat.lt_succ_self _) ls _ _ (lv_sub hl [1, 0] rfl) (by rw [fillF_0]; rw [show k = 10 by omega] at hP; exact hP) (by rw [fillF_0]; rw [show k = 10 by omega] at hD; exact hD) hS
      · refine lv_aload_n hx hb dX7_clear_13 rfl (lv_at hl 0 rfl) ?_
        refine va_get (D := D) (ci := 7) (v := .ref mj) (C := RX7) (T := TX7) (N := 34) hx hb hts hi_7 hown hK hP 0 rfl rfl 3 (by decide) hf_17 (fun _ h9 => h9) rfl dX7_clear_14 ?_
        refine lv_iload_n hx hb dX7_clear_17 rfl (lv_at hl 1 rfl) ?_
        refine lv_iconst (v := 0) hx hb dX7_clear_18 (by decide) ?_
        refine r_iast hx hb hK hP hD hS 1 rfl k rfl (by omega) (by omega) dX7_clear_19 (fun H locs hP hD hS => ?_)
        have hP : va_P D vwCl [(mo, .inr (7, moV (nI nn) (nI 0) me mj mw mp mu (zb (ke = true)) bd ml (nI sq) mq fi gu le cs (zb (ba = true)) ov m1 m2 m3 m4 lk (zb (sp = true)) bs bo m5 m6 m7 su sl m8 lo sh)), (mj, .inl (cI, 10, .inl (upd (fillF ne 0 k) k 0))), (mw, .inl (cI, 10, .inl (fillF wo 1 k))), (mp, .inl (cI, 10, .inl (fillF pr 1 k))), (ml, .inl (cI, 9, .inl pl))] H := hP
        have hD : va_D A [(mo, .inr (7, moV (nI nn) (nI 0) me mj mw mp mu (zb (ke = true)) bd ml (nI sq) mq fi gu le cs (zb (ba = true)) ov m1 m2 m3 m4 lk (zb (sp = true)) bs bo m5 m6 m7 su sl m8 lo sh)), (mj, .inl (cI, 10, .inl (upd (fillF ne 0 k) k 0))), (mw, .inl (cI, 10, .inl (fillF wo 1 k))), (mp, .inl (cI, 10, .inl (fillF pr 1 k))), (ml, .inl (cI, 9, .inl pl))] := hD
        refine lv_aload_n hx hb dX7_clear_20 rfl (lv_at hl 0 rfl) ?_
        refine va_get (D := D) (ci := 7) (v := .ref mw) (C := RX7) (T := TX7) (N := 34) hx hb hts hi_7 hown hK hP 0 rfl rfl 4 (by decide) hf_20 (fun _ h9 => h9) rfl dX7_clear_21 ?_
        refine lv_iload_n hx hb dX7_clear_24 rfl (lv_at hl 1 rfl) ?_
        refine lv_iconst (v := 1) hx hb dX7_clear_25 (by decide) ?_
        refine r_iast hx hb hK hP hD hS 2 rfl k rfl (by omega) (by omega) dX7_clear_26 (fun H locs hP hD hS => ?_)
        have hP : va_P D vwCl [(mo, .inr (7, moV (nI nn) (nI 0) me mj mw mp mu (zb (ke = true)) bd ml (nI sq) mq fi gu le cs (zb (ba = true)) ov m1 m2 m3 m4 lk (zb (sp = true)) bs bo m5 m6 m7 su sl m8 lo sh)), (mj, .inl (cI, 10, .inl (upd (fillF ne 0 k) k 0))), (mw, .inl (cI, 10, .inl (upd (fillF wo 1 k) k 1))), (mp, .inl (cI, 10, .inl (fillF pr 1 k))), (ml, .inl (cI, 9, .inl pl))] H := hP
        have hD : va_D A [(mo, .inr (7, moV (nI nn) (nI 0) me mj mw mp mu (zb (ke = true)) bd ml (nI sq) mq fi gu le cs (zb (ba = true)) ov m1 m2 m3 m4 lk (zb (sp = true)) bs bo m5 m6 m7 su sl m8 lo sh)), (mj, .inl (cI, 10, .inl (upd (fillF ne 0 k) k 0))), (mw, .inl (cI, 10, .inl (upd (fillF wo 1 k) k 1))), (mp, .inl (cI, 10, .inl (fillF pr 1 k))), (ml, .inl (cI, 9, .inl pl))] := hD
        refine lv_aload_n hx hb dX7_clear_27 rfl (lv_at hl 0 rfl) ?_
        refine va_get (D := D) (ci := 7) (v := .ref mp) (C := RX7) (T := TX7) (N := 34) hx hb hts hi_7 hown hK hP 0 rfl rfl 5 (by decide) hf_23 (fun _ h9 => h9) rfl dX7_clear_28 ?_
        refine lv_iload_n hx hb dX7_clear_31 rfl (lv_at hl 1 rfl) ?_
        refine lv_iconst (v := 1) hx hb dX7_clear_32 (by decide) ?_
        refine r_iast hx hb hK hP hD hS 3 rfl k rfl (by omega) (by omega) dX7_clear_33 (fun H locs hP hD hS => ?_)
        have hP : va_P D vwCl [(mo, .inr (7, moV (nI nn) (nI 0) me mj mw mp mu (zb (ke = true)) bd ml (nI sq) mq fi gu le cs (zb (ba = true)) ov m1 m2 m3 m4 lk (zb (sp = true)) bs bo m5 m6 m7 su sl m8 lo sh)), (mj, .inl (cI, 10, .inl (upd (fillF ne 0 k) k 0))), (mw, .inl (cI, 10, .inl (upd (fillF wo 1 k) k 1))), (mp, .inl (cI, 10, .inl (upd (fillF pr 1 k) k 1))), (ml, .inl (cI, 9, .inl pl))] H := hP
        have hD : va_D A [(mo, .inr (7, moV (nI nn) (nI 0) me mj mw mp mu (zb (ke = true)) bd ml (nI sq) mq fi gu le cs (zb (ba = true)) ov m1 m2 m3 m4 lk (zb (sp = true)) bs bo m5 m6 m7 su sl m8 lo sh)), (mj, .inl (cI, 10, .inl (upd (fillF ne 0 k) k 0))), (mw, .inl (cI, 10, .inl (upd (fillF wo 1 k) k 1))), (mp, .inl (cI, 10, .inl (upd (fillF pr 1 k) k 1))), (ml, .inl (cI, 9, .inl pl))] := hD
        refine r_iinc (lv' := [(1, .int (nI (k + 1))), (0, .ref mo)]) hx hb 1 k dX7_clear_34 hl rfl (by decide) rfl (fun ls hl => ?_)
        refine lv_goto (tgt := 7) hx hb dX7_clear_37 (by decide) ?_
        exact ih_lp (k + 1) (by omega) (by omega) ls _ _ (lv_sub hl [1, 0] rfl) (by rw [fillF_S, fillF_S, fillF_S]; exact hP) (by rw [fillF_S, fillF_S, fillF_S]; exact hD) hS
  exact lp _ 0 (by omega) (Nat.lt_succ_self _) ls _ _ (lv_sub hl [1, 0] rfl) (by rw [fillF_0, fillF_0, fillF_0]; exact hP) (by rw [fillF_0, fillF_0, fillF_0]; exact hD) hS
def rmX7_net : Room := { frames := 1, cells := 0, slots := 0, locals := 25 }
theorem kdX7_net : yX7_net.cls = RX7 ∧ yX7_net.cls ≠ "java/lang/invoke/MethodHandle" ∧ yX7_net.cls ≠ "java/lang/invoke/VarHandle" ∧ (parseMethodDescriptor yX7_net.desc).map (fun d => d.parameters.length) = some 1 := ⟨rfl, by decide +kernel, by decide +kernel, by decide +kernel⟩
set_option maxRecDepth 100000 in
set_option maxHeartbeats 1000000 in
theorem kX7_net (l : Launch) (D : va_G) (cI cJ : ClassId) (mo : Nat) (nn : Nat) (mm : Nat) (me : Nat) (mj : Nat) (mw : Nat) (mp : Nat) (mu : Nat) (ke : Bool) (bd : Int32) (ml : Nat) (sq : Nat) (mq : Nat) (fi : Int32) (gu : Int32) (le : Int32) (cs : Int32) (ba : Bool) (ov : Int32) (m1 : Nat) (m2 : Nat) (m3 : Nat) (m4 : Nat) (lk : Int32) (sp : Bool) (bs : Int32) (bo : Int32) (m5 : Nat) (m6 : Nat) (m7 : Nat) (su : Int32) (sl : Int32) (m8 : Nat) (lo : Int32) (sh : Int32) (ne : Row) (wo : Row) (pr : Row) (pl : Row) (v : Int32)  : Met l yX7_net wsX7_net rmX7_net (mPre D cI cJ [.ref mo, .int v] [(mo, .inr (7, moV (nI nn) (nI mm) me mj mw mp mu (zb (ke = true)) bd ml (nI sq) mq fi gu le cs (zb (ba = true)) ov m1 m2 m3 m4 lk (zb (sp = true)) bs bo m5 m6 m7 su sl m8 lo sh)), (mj, .inl (cI, 10, .inl ne)), (mw, .inl (cI, 10, .inl wo)), (mp, .inl (cI, 10, .inl pr)), (ml, .inl (cI, 9, .inl pl))]) (mQi D (fun (r : Int32) (_ : Unit) => r = (if 1 ≤ v ∧ v ≤ 10 then 1 else -1002)) (fun (_ : Unit) => [(mo, .inr (7, moV (nI (if 1 ≤ v ∧ v ≤ 10 then v.toNatClampNeg else nn)) (nI (if 1 ≤ v ∧ v ≤ 10 then 0 else mm)) me mj mw mp mu (zb (ke = true)) bd ml (nI sq) mq fi gu le cs (zb (ba = true)) ov m1 m2 m3 m4 lk (zb (sp = true)) bs bo m5 m6 m7 su sl m8 lo sh)), (mj, .inl (cI, 10, .inl (if 1 ≤ v ∧ v ≤ 10 then fillF ne 0 10 else ne))), (mw, .inl (cI, 10, .inl (if 1 ≤ v ∧ v ≤ 10 then fillF wo 1 10 else wo))), (mp, .inl (cI, 10, .inl (if 1 ≤ v ∧ v ≤ 10 then fillF pr 1 10 else pr))), (ml, .inl (cI, 9, .inl (if 1 ≤ v ∧ v ≤ 10 then fillF pl 0 9 else pl)))]) [(mo, .inr (7, moV (nI nn) (nI mm) me mj mw mp mu (zb (ke = true)) bd ml (nI sq) mq fi gu le cs (zb (ba = true)) ov m1 m2 m3 m4 lk (zb (sp = true)) bs bo m5 m6 m7 su sl m8 lo sh)), (mj, .inl (cI, 10, .inl ne)), (mw, .inl (cI, 10, .inl wo)), (mp, .inl (cI, 10, .inl pr)), (ml, .inl (cI, 9, .inl pl))]) 0 0 (mA [(mo, .inr (7, moV (nI nn) (nI mm) me mj mw mp mu (zb (ke = true)) bd ml (nI sq) mq fi gu le cs (zb (ba = true)) ov m1 m2 m3 m4 lk (zb (sp = true)) bs bo m5 m6 m7 su sl m8 lo sh)), (mj, .inl (cI, 10, .inl ne)), (mw, .inl (cI, 10, .inl wo)), (mp, .inl (cI, 10, .inl pr)), (ml, .inl (cI, 9, .inl pl))]) := by
  refine startM (cc := cX7_net) (maxL := 2) (ret := (some .int)) (by decide) rfl (Nat.le_of_ble_eq_true rfl) ?_
  intro p e s m args below meth c ls Q A hA hQ hx hb hr hlocks hml hown hts hK hN hP hD hl hin
  have hown : s.vm.findClass RX7 = some m.cls := hown
  have hi_7 : ∀ w ∈ wsX70, w ∈ wsX7_net := by decide +kernel
  have hf_7 := hts (.fieldLink RX7 7 "FireNetsModel" "n" "I") (by decide +kernel)
  have hc_76 := hts (.constantLong RX7 76 (10)) (by decide +kernel)
  have hS : va_S A s.heap s.heap [] := va_S.rf
  have hl : lv_has ls 2 [(0, .ref mo), (1, .int v)] := hl
  have hP : va_P D vwCl [(mo, .inr (7, moV (nI nn) (nI mm) me mj mw mp mu (zb (ke = true)) bd ml (nI sq) mq fi gu le cs (zb (ba = true)) ov m1 m2 m3 m4 lk (zb (sp = true)) bs bo m5 m6 m7 su sl m8 lo sh)), (mj, .inl (cI, 10, .inl ne)), (mw, .inl (cI, 10, .inl wo)), (mp, .inl (cI, 10, .inl pr)), (ml, .inl (cI, 9, .inl pl))] s.heap := hP
  refine lv_iload_n hx hb dX7_net_0 rfl (lv_at hl 1 rfl) ?_
  refine lv_i2l (v := v.toInt64) hx hb dX7_net_1 rfl ?_
  refine lv_lconst (v := 1) hx hb dX7_net_2 (by decide) ?_
  refine lv_ldc2 (v := 10) hx hb hown hc_76 dX7_net_3 ?_
  refine goRI hP hS (va_runS (As := [.long v.toInt64, .long 1, .long 10]) (rest := []) ⟨hx, hb, hml, hown, hts⟩ (kX7_in l D cI cJ v.toInt64 1 10) (va_cwS 3 hts gX7_net_X7_in rfl rfl rfl kdX7_in.2 ⟨Nat.le_of_ble_eq_true rfl, Nat.le_of_ble_eq_true rfl⟩) (preR hK hN hP [] rfl) rfl rfl hl.1 rfl (lv_room (Nat.le_of_ble_eq_true rfl)) dX7_net_6 ⟨Nat.zero_le _, Nat.zero_le _⟩) (fun H locs hP hS => ?_)
  refine r_top (x' := zb (1 ≤ v ∧ v ≤ 10)) (zb_iff (in_c (by first | rfl | decide) (by first | rfl | decide))) ?_
  refine r_zne (tgt := 16) hx hb dX7_net_9 (by decide) (fun c_9 => ?_) (fun c_9 => ?_)
  · obtain ⟨vq, hvq, rfl⟩ := (net_ix c_9)
    refine lv_aload_n hx hb dX7_net_16 rfl (lv_at hl 0 rfl) ?_
    refine lv_iload_n hx hb dX7_net_17 rfl (lv_at hl 1 rfl) ?_
    refine va_put (D := D) (ci := 7) (v := .int (nI vq)) (ty := .int) (C := RX7) (T := TX7) (N := 34) hx hb hts hi_7 tyX7 tyX7_ok nmX7 hown hK hP hD hS 0 rfl rfl 0 (by decide) hf_7 (fun _ h9 => h9) rfl (by decide +kernel) rfl rfl (Nat.le_of_ble_eq_true rfl) dX7_net_18 (fun H locs hP hD hS => ?_)
    have hP : va_P D vwCl [(mo, .inr (7, moV (nI vq) (nI mm) me mj mw mp mu (zb (ke = true)) bd ml (nI sq) mq fi gu le cs (zb (ba = true)) ov m1 m2 m3 m4 lk (zb (sp = true)) bs bo m5 m6 m7 su sl m8 lo sh)), (mj, .inl (cI, 10, .inl ne)), (mw, .inl (cI, 10, .inl wo)), (mp, .inl (cI, 10, .inl pr)), (ml, .inl (cI, 9, .inl pl))] H := hP
    have hD : va_D A [(mo, .inr (7, moV (nI vq) (nI mm) me mj mw mp mu (zb (ke = true)) bd ml (nI sq) mq fi gu le cs (zb (ba = true)) ov m1 m2 m3 m4 lk (zb (sp = true)) bs bo m5 m6 m7 su sl m8 lo sh)), (mj, .inl (cI, 10, .inl ne)), (mw, .inl (cI, 10, .inl wo)), (mp, .inl (cI, 10, .inl pr)), (ml, .inl (cI, 9, .inl pl))] := hD
    refine lv_aload_n hx hb dX7_net_21 rfl (lv_at hl 0 rfl) ?_
    refine goMV hP hD hS (va_runV (As := []) (rest := []) ⟨hx, hb, hml, hown, hts⟩ (kX7_clear l D cI cJ mo vq mm me mj mw mp mu ke bd ml sq mq fi gu le cs ba ov m1 m2 m3 m4 lk sp bs bo m5 m6 m7 su sl m8 lo sh ne wo pr pl) (cwV 0 hts gX7_net_X7_clear rfl rfl rfl kdX7_clear ⟨Nat.le_of_ble_eq_true rfl, Nat.le_of_ble_eq_true rfl⟩) (preMV hK hN hP hD 0 (ci := 7) rfl rfl rfl [0, 1, 2, 3, 4] rfl (by decide)) rfl rfl hl.1 rfl (lv_room (Nat.le_of_ble_eq_true rfl)) dX7_net_22 ⟨Nat.zero_le _, Nat.zero_le _⟩) [0, 1, 2, 3, 4] rfl (by decide) (fun _ => (show ([mo, mj, mw, mp, ml] : List Nat) = [mo, mj, mw, mp, ml] from rfl)) (fun _ H locs hp_22 hP hD hS => ?_)
    have hP : va_P D vwCl [(mo, .inr (7, moV (nI vq) (nI 0) me mj mw mp mu (zb (ke = true)) bd ml (nI sq) mq fi gu le cs (zb (ba = true)) ov m1 m2 m3 m4 lk (zb (sp = true)) bs bo m5 m6 m7 su sl m8 lo sh)), (mj, .inl (cI, 10, .inl (fillF ne 0 10))), (mw, .inl (cI, 10, .inl (fillF wo 1 10))), (mp, .inl (cI, 10, .inl (fillF pr 1 10))), (ml, .inl (cI, 9, .inl (fillF pl 0 9)))] H := hP
    have hD : va_D A [(mo, .inr (7, moV (nI vq) (nI 0) me mj mw mp mu (zb (ke = true)) bd ml (nI sq) mq fi gu le cs (zb (ba = true)) ov m1 m2 m3 m4 lk (zb (sp = true)) bs bo m5 m6 m7 su sl m8 lo sh)), (mj, .inl (cI, 10, .inl (fillF ne 0 10))), (mw, .inl (cI, 10, .inl (fillF wo 1 10))), (mp, .inl (cI, 10, .inl (fillF pr 1 10))), (ml, .inl (cI, 9, .inl (fillF pl 0 9)))] := hD
    refine lv_iconst (v := 1) hx hb dX7_net_25 (by decide) ?_
    exact endMI () hx hb hr hlocks hA hQ hS hP dX7_net_26 (by simp only [if_pos c_9, nI_clamp (show vq < 2 ^ 31 by omega)]) (if_pos c_9).symm
  · refine lv_sipush (v := (-1002)) hx hb dX7_net_12 (by decide) ?_
    exact endMI () hx hb hr hlocks hA hQ hS hP dX7_net_15 (by simp only [if_neg c_9]) (if_neg c_9).symm
def rmX7_line : Room := { frames := 2, cells := 0, slots := 0, locals := 46 }
theorem kdX7_line : yX7_line.cls = RX7 ∧ yX7_line.cls ≠ "java/lang/invoke/MethodHandle" ∧ yX7_line.cls ≠ "java/lang/invoke/VarHandle" ∧ (parseMethodDescriptor yX7_line.desc).map (fun d => d.parameters.length) = some 2 := ⟨rfl, by decide +kernel, by decide +kernel, by decide +kernel⟩
set_option maxRecDepth 100000 in
set_option maxHeartbeats 1000000 in
theorem kX7_line (l : Launch) (D : va_G) (cI cJ : ClassId) (mo : Nat) (nn : Nat) (mm : Nat) (me : Nat) (mj : Nat) (mw : Nat) (mp : Nat) (mu : Nat) (ke : Bool) (bd : Int32) (ml : Nat) (sq : Nat) (mq : Nat) (fi : Int32) (gu : Int32) (le : Int32) (cs : Int32) (ba : Bool) (ov : Int32) (m1 : Nat) (m2 : Nat) (m3 : Nat) (m4 : Nat) (lk : Int32) (sp : Bool) (bs : Int32) (bo : Int32) (m5 : Nat) (m6 : Nat) (m7 : Nat) (su : Int32) (sl : Int32) (m8 : Nat) (lo : Int32) (sh : Int32) (en : Row) (ne : Row) (a b : Int32) (hn1 : 1 ≤ nn) (hn10 : nn ≤ 10) (hm : mm ≤ 24) : Met l yX7_line wsX7_line rmX7_line (mPre D cI cJ [.ref mo, .int a, .int b] [(mo, .inr (7, moV (nI nn) (nI mm) me mj mw mp mu (zb (ke = true)) bd ml (nI sq) mq fi gu le cs (zb (ba = true)) ov m1 m2 m3 m4 lk (zb (sp = true)) bs bo m5 m6 m7 su sl m8 lo sh)), (me, .inl (cI, 48, .inl en)), (mj, .inl (cI, 10, .inl ne))]) (mQi D (fun (r : Int32) (_ : Unit) => r = (lineR nn mm ne a b)) (fun (_ : Unit) => [(mo, .inr (7, moV (nI nn) (nI (if linkR nn mm ne a b = true then mm + 1 else mm)) me mj mw mp mu (zb (ke = true)) bd ml (nI sq) mq fi gu le cs (zb (ba = true)) ov m1 m2 m3 m4 lk (zb (sp = true)) bs bo m5 m6 m7 su sl m8 lo sh)), (me, .inl (cI, 48, .inl (if linkR nn mm ne a b = true then upd (upd en (2 * mm) a) (2 * mm + 1) b else en))), (mj, .inl (cI, 10, .inl (if linkR nn mm ne a b = true then upd (upd ne a.toNatClampNeg (ne a.toNatClampNeg ||| (1 <<< (b &&& 31)))) b.toNatClampNeg (upd ne a.toNatClampNeg (ne a.toNatClampNeg ||| (1 <<< (b &&& 31))) b.toNatClampNeg ||| (1 <<< (a &&& 31))) else ne)))]) [(mo, .inr (7, moV (nI nn) (nI mm) me mj mw mp mu (zb (ke = true)) bd ml (nI sq) mq fi gu le cs (zb (ba = true)) ov m1 m2 m3 m4 lk (zb (sp = true)) bs bo m5 m6 m7 su sl m8 lo sh)), (me, .inl (cI, 48, .inl en)), (mj, .inl (cI, 10, .inl ne))]) 0 0 (mA [(mo, .inr (7, moV (nI nn) (nI mm) me mj mw mp mu (zb (ke = true)) bd ml (nI sq) mq fi gu le cs (zb (ba = true)) ov m1 m2 m3 m4 lk (zb (sp = true)) bs bo m5 m6 m7 su sl m8 lo sh)), (me, .inl (cI, 48, .inl en)), (mj, .inl (cI, 10, .inl ne))]) := by
  refine startM (cc := cX7_line) (maxL := 3) (ret := (some .int)) (by decide) rfl (Nat.le_of_ble_eq_true rfl) ?_
  intro p e s m args below meth c ls Q A hA hQ hx hb hr hlocks hml hown hts hK hN hP hD hl hin
  have hown : s.vm.findClass RX7 = some m.cls := hown
  have hi_7 : ∀ w ∈ wsX70, w ∈ wsX7_line := by decide +kernel
  have hf_13 := hts (.fieldLink RX7 13 "FireNetsModel" "ends" "[I") (by decide +kernel)
  have hf_17 := hts (.fieldLink RX7 17 "FireNetsModel" "joined" "[I") (by decide +kernel)
  have hf_65 := hts (.fieldLink RX7 65 "FireNetsModel" "lines" "I") (by decide +kernel)
  have hS : va_S A s.heap s.heap [] := va_S.rf
  have hl : lv_has ls 3 [(0, .ref mo), (1, .int a), (2, .int b)] := hl
  have hP : va_P D vwCl [(mo, .inr (7, moV (nI nn) (nI mm) me mj mw mp mu (zb (ke = true)) bd ml (nI sq) mq fi gu le cs (zb (ba = true)) ov m1 m2 m3 m4 lk (zb (sp = true)) bs bo m5 m6 m7 su sl m8 lo sh)), (me, .inl (cI, 48, .inl en)), (mj, .inl (cI, 10, .inl ne))] s.heap := hP
  refine lv_aload_n hx hb dX7_line_0 rfl (lv_at hl 0 rfl) ?_
  refine lv_iload_n hx hb dX7_line_1 rfl (lv_at hl 1 rfl) ?_
  refine goRI hP hS (va_runV (As := [.int a]) (rest := []) ⟨hx, hb, hml, hown, hts⟩ (kX7_isNode l D cI cJ mo nn mm me mj mw mp mu ke bd ml sq mq fi gu le cs ba ov m1 m2 m3 m4 lk sp bs bo m5 m6 m7 su sl m8 lo sh a) (cwV 1 hts gX7_line_X7_isNode rfl rfl rfl kdX7_isNode ⟨Nat.le_of_ble_eq_true rfl, Nat.le_of_ble_eq_true rfl⟩) (preRV hK hN hP 0 (ci := 7) rfl rfl rfl [0] rfl) rfl rfl hl.1 rfl (lv_room (Nat.le_of_ble_eq_true rfl)) dX7_line_2 ⟨Nat.zero_le _, Nat.zero_le _⟩) (fun H locs hP hS => ?_)
  refine r_zeq (tgt := 16) hx hb dX7_line_5 (by decide) (fun c_5 => ?_) (fun c_5 => ?_)
  · refine lv_sipush (v := (-1001)) hx hb dX7_line_16 (by decide) ?_
    exact endMI () hx hb hr hlocks hA hQ hS hP dX7_line_19 (by have hL : ¬ (linkR nn mm ne a b = true) := fun h => (fun h => c_5 h.1) (of_decide_eq_true h).1; simp only [if_neg hL]) (by rw [lineR, if_neg (fun h => c_5 h.1)])
  · refine lv_aload_n hx hb dX7_line_8 rfl (lv_at hl 0 rfl) ?_
    refine lv_iload_n hx hb dX7_line_9 rfl (lv_at hl 2 rfl) ?_
    refine goRI hP hS (va_runV (As := [.int b]) (rest := []) ⟨hx, hb, hml, hown, hts⟩ (kX7_isNode l D cI cJ mo nn mm me mj mw mp mu ke bd ml sq mq fi gu le cs ba ov m1 m2 m3 m4 lk sp bs bo m5 m6 m7 su sl m8 lo sh b) (cwV 1 hts gX7_line_X7_isNode rfl rfl rfl kdX7_isNode ⟨Nat.le_of_ble_eq_true rfl, Nat.le_of_ble_eq_true rfl⟩) (preRV hK hN hP 0 (ci := 7) rfl rfl rfl [0] rfl) rfl rfl hl.1 rfl (lv_room (Nat.le_of_ble_eq_true rfl)) dX7_line_10 ⟨Nat.zero_le _, Nat.zero_le _⟩) (fun H locs hP hS => ?_)
    refine r_zne (tgt := 20) hx hb dX7_line_13 (by decide) (fun c_13 => ?_) (fun c_13 => ?_)
    · obtain ⟨aq, haq, rfl⟩ := (i_hasE hn10 hn1 c_5)
      obtain ⟨bq, hbq, rfl⟩ := (i_hasE hn10 hn1 c_13)
      have ea := nI_clamp (show aq < 2 ^ 31 by omega)
      have eb := nI_clamp (show bq < 2 ^ 31 by omega)
      refine lv_iload_n hx hb dX7_line_20 rfl (lv_at hl 1 rfl) ?_
      refine lv_iload_n hx hb dX7_line_21 rfl (lv_at hl 2 rfl) ?_
      refine lv_icmp_ne (tgt := 29) hx hb dX7_line_22 (by decide) (fun c_22 => ?_) (fun c_22 => ?_)
      · refine lv_aload_n hx hb dX7_line_29 rfl (lv_at hl 0 rfl) ?_
        refine va_get (D := D) (ci := 7) (v := .ref mj) (C := RX7) (T := TX7) (N := 34) hx hb hts hi_7 hown hK hP 0 rfl rfl 3 (by decide) hf_17 (fun _ h9 => h9) rfl dX7_line_30 ?_
        refine lv_iload_n hx hb dX7_line_33 rfl (lv_at hl 1 rfl) ?_
        refine r_iald hx hb hK hP 2 rfl aq rfl (by omega) (by omega) dX7_line_34 ?_
        refine lv_iload_n hx hb dX7_line_35 rfl (lv_at hl 2 rfl) ?_
        refine lv_ishr hx hb dX7_line_36 ?_
        refine lv_iconst (v := 1) hx hb dX7_line_37 (by decide) ?_
        refine lv_iand hx hb dX7_line_38 ?_
        refine lv_iconst (v := 1) hx hb dX7_line_39 (by decide) ?_
        refine lv_icmp_ne (tgt := 47) hx hb dX7_line_40 (by decide) (fun c_40 => ?_) (fun c_40 => ?_)
        · refine lv_aload_n hx hb dX7_line_47 rfl (lv_at hl 0 rfl) ?_
          refine va_get (D := D) (ci := 7) (v := .int (nI mm)) (C := RX7) (T := TX7) (N := 34) hx hb hts hi_7 hown hK hP 0 rfl rfl 1 (by decide) hf_65 (fun _ h9 => h9) rfl dX7_line_48 ?_
          refine lv_bipush (v := 24) hx hb dX7_line_51 (by decide) ?_
          refine r_icmp_ne (tgt := 60) hx hb mm 24 dX7_line_53 (by decide) rfl rfl (by omega) (by omega) (fun c_53 => ?_) (fun c_53 => ?_)
          · refine lv_aload_n hx hb dX7_line_60 rfl (lv_at hl 0 rfl) ?_
            refine va_get (D := D) (ci := 7) (v := .ref me) (C := RX7) (T := TX7) (N := 34) hx hb hts hi_7 hown hK hP 0 rfl rfl 2 (by decide) hf_13 (fun _ h9 => h9) rfl dX7_line_61 ?_
            refine lv_iconst (v := 2) hx hb dX7_line_64 (by decide) ?_
            refine lv_aload_n hx hb dX7_line_65 rfl (lv_at hl 0 rfl) ?_
            refine va_get (D := D) (ci := 7) (v := .int (nI mm)) (C := RX7) (T := TX7) (N := 34) hx hb hts hi_7 hown hK hP 0 rfl rfl 1 (by decide) hf_65 (fun _ h9 => h9) rfl dX7_line_66 ?_
            refine lv_imul hx hb dX7_line_69 ?_
            refine r_top (x' := nI (2 * mm)) (pk_mul 2 mm) ?_
            refine lv_iload_n hx hb dX7_line_70 rfl (lv_at hl 1 rfl) ?_
            refine r_iast hx hb hK hP hD hS 1 rfl (2 * mm) rfl (by omega) (by omega) dX7_line_71 (fun H locs hP hD hS => ?_)
            have hP : va_P D vwCl [(mo, .inr (7, moV (nI nn) (nI mm) me mj mw mp mu (zb (ke = true)) bd ml (nI sq) mq fi gu le cs (zb (ba = true)) ov m1 m2 m3 m4 lk (zb (sp = true)) bs bo m5 m6 m7 su sl m8 lo sh)), (me, .inl (cI, 48, .inl (upd en (2 * mm) (nI aq)))), (mj, .inl (cI, 10, .inl ne))] H := hP
            have hD : va_D A [(mo, .inr (7, moV (nI nn) (nI mm) me mj mw mp mu (zb (ke = true)) bd ml (nI sq) mq fi gu le cs (zb (ba = true)) ov m1 m2 m3 m4 lk (zb (sp = true)) bs bo m5 m6 m7 su sl m8 lo sh)), (me, .inl (cI, 48, .inl (upd en (2 * mm) (nI aq)))), (mj, .inl (cI, 10, .inl ne))] := hD
            refine lv_aload_n hx hb dX7_line_72 rfl (lv_at hl 0 rfl) ?_
            refine va_get (D := D) (ci := 7) (v := .ref me) (C := RX7) (T := TX7) (N := 34) hx hb hts hi_7 hown hK hP 0 rfl rfl 2 (by decide) hf_13 (fun _ h9 => h9) rfl dX7_line_73 ?_
            refine lv_iconst (v := 2) hx hb dX7_line_76 (by decide) ?_
            refine lv_aload_n hx hb dX7_line_77 rfl (lv_at hl 0 rfl) ?_
            refine va_get (D := D) (ci := 7) (v := .int (nI mm)) (C := RX7) (T := TX7) (N := 34) hx hb hts hi_7 hown hK hP 0 rfl rfl 1 (by decide) hf_65 (fun _ h9 => h9) rfl dX7_line_78 ?_
            refine lv_imul hx hb dX7_line_81 ?_
            refine r_top (x' := nI (2 * mm)) (pk_mul 2 mm) ?_
            refine lv_iconst (v := 1) hx hb dX7_line_82 (by decide) ?_
            refine lv_iadd hx hb dX7_line_83 ?_
            refine r_top (x' := nI ((2 * mm) + 1)) (nI_add (2 * mm) 1) ?_
            refine lv_iload_n hx hb dX7_line_84 rfl (lv_at hl 2 rfl) ?_
            refine r_iast hx hb hK hP hD hS 1 rfl ((2 * mm) + 1) rfl (by omega) (by omega) dX7_line_85 (fun H locs hP hD hS => ?_)
            have hP : va_P D vwCl [(mo, .inr (7, moV (nI nn) (nI mm) me mj mw mp mu (zb (ke = true)) bd ml (nI sq) mq fi gu le cs (zb (ba = true)) ov m1 m2 m3 m4 lk (zb (sp = true)) bs bo m5 m6 m7 su sl m8 lo sh)), (me, .inl (cI, 48, .inl (upd (upd en (2 * mm) (nI aq)) ((2 * mm) + 1) (nI bq)))), (mj, .inl (cI, 10, .inl ne))] H := hP
            have hD : va_D A [(mo, .inr (7, moV (nI nn) (nI mm) me mj mw mp mu (zb (ke = true)) bd ml (nI sq) mq fi gu le cs (zb (ba = true)) ov m1 m2 m3 m4 lk (zb (sp = true)) bs bo m5 m6 m7 su sl m8 lo sh)), (me, .inl (cI, 48, .inl (upd (upd en (2 * mm) (nI aq)) ((2 * mm) + 1) (nI bq)))), (mj, .inl (cI, 10, .inl ne))] := hD
            refine lv_aload_n hx hb dX7_line_86 rfl (lv_at hl 0 rfl) ?_
            refine va_get (D := D) (ci := 7) (v := .ref mj) (C := RX7) (T := TX7) (N := 34) hx hb hts hi_7 hown hK hP 0 rfl rfl 3 (by decide) hf_17 (fun _ h9 => h9) rfl dX7_line_87 ?_
            refine lv_iload_n hx hb dX7_line_90 rfl (lv_at hl 1 rfl) ?_
            refine lv_dup2_11 hx hb dX7_line_91 rfl rfl ?_
            refine r_iald hx hb hK hP 2 rfl aq rfl (by omega) (by omega) dX7_line_92 ?_
            refine lv_iconst (v := 1) hx hb dX7_line_93 (by decide) ?_
            refine lv_iload_n hx hb dX7_line_94 rfl (lv_at hl 2 rfl) ?_
            refine lv_ishl hx hb dX7_line_95 ?_
            refine lv_ior hx hb dX7_line_96 ?_
            refine r_iast hx hb hK hP hD hS 2 rfl aq rfl (by omega) (by omega) dX7_line_97 (fun H locs hP hD hS => ?_)
            have hP : va_P D vwCl [(mo, .inr (7, moV (nI nn) (nI mm) me mj mw mp mu (zb (ke = true)) bd ml (nI sq) mq fi gu le cs (zb (ba = true)) ov m1 m2 m3 m4 lk (zb (sp = true)) bs bo m5 m6 m7 su sl m8 lo sh)), (me, .inl (cI, 48, .inl (upd (upd en (2 * mm) (nI aq)) ((2 * mm) + 1) (nI bq)))), (mj, .inl (cI, 10, .inl (upd ne aq ((ne aq) ||| (1 <<< ((nI bq) &&& 31))))))] H := hP
            have hD : va_D A [(mo, .inr (7, moV (nI nn) (nI mm) me mj mw mp mu (zb (ke = true)) bd ml (nI sq) mq fi gu le cs (zb (ba = true)) ov m1 m2 m3 m4 lk (zb (sp = true)) bs bo m5 m6 m7 su sl m8 lo sh)), (me, .inl (cI, 48, .inl (upd (upd en (2 * mm) (nI aq)) ((2 * mm) + 1) (nI bq)))), (mj, .inl (cI, 10, .inl (upd ne aq ((ne aq) ||| (1 <<< ((nI bq) &&& 31))))))] := hD
            refine lv_aload_n hx hb dX7_line_98 rfl (lv_at hl 0 rfl) ?_
            refine va_get (D := D) (ci := 7) (v := .ref mj) (C := RX7) (T := TX7) (N := 34) hx hb hts hi_7 hown hK hP 0 rfl rfl 3 (by decide) hf_17 (fun _ h9 => h9) rfl dX7_line_99 ?_
            refine lv_iload_n hx hb dX7_line_102 rfl (lv_at hl 2 rfl) ?_
            refine lv_dup2_11 hx hb dX7_line_103 rfl rfl ?_
            refine r_iald hx hb hK hP 2 rfl bq rfl (by omega) (by omega) dX7_line_104 ?_
            refine lv_iconst (v := 1) hx hb dX7_line_105 (by decide) ?_
            refine lv_iload_n hx hb dX7_line_106 rfl (lv_at hl 1 rfl) ?_
            refine lv_ishl hx hb dX7_line_107 ?_
            refine lv_ior hx hb dX7_line_108 ?_
            refine r_iast hx hb hK hP hD hS 2 rfl bq rfl (by omega) (by omega) dX7_line_109 (fun H locs hP hD hS => ?_)
            have hP : va_P D vwCl [(mo, .inr (7, moV (nI nn) (nI mm) me mj mw mp mu (zb (ke = true)) bd ml (nI sq) mq fi gu le cs (zb (ba = true)) ov m1 m2 m3 m4 lk (zb (sp = true)) bs bo m5 m6 m7 su sl m8 lo sh)), (me, .inl (cI, 48, .inl (upd (upd en (2 * mm) (nI aq)) ((2 * mm) + 1) (nI bq)))), (mj, .inl (cI, 10, .inl (upd (upd ne aq ((ne aq) ||| (1 <<< ((nI bq) &&& 31)))) bq (((upd ne aq ((ne aq) ||| (1 <<< ((nI bq) &&& 31)))) bq) ||| (1 <<< ((nI aq) &&& 31))))))] H := hP
            have hD : va_D A [(mo, .inr (7, moV (nI nn) (nI mm) me mj mw mp mu (zb (ke = true)) bd ml (nI sq) mq fi gu le cs (zb (ba = true)) ov m1 m2 m3 m4 lk (zb (sp = true)) bs bo m5 m6 m7 su sl m8 lo sh)), (me, .inl (cI, 48, .inl (upd (upd en (2 * mm) (nI aq)) ((2 * mm) + 1) (nI bq)))), (mj, .inl (cI, 10, .inl (upd (upd ne aq ((ne aq) ||| (1 <<< ((nI bq) &&& 31)))) bq (((upd ne aq ((ne aq) ||| (1 <<< ((nI bq) &&& 31)))) bq) ||| (1 <<< ((nI aq) &&& 31))))))] := hD
            refine lv_aload_n hx hb dX7_line_110 rfl (lv_at hl 0 rfl) ?_
            refine lv_dup hx hb dX7_line_111 rfl ?_
            refine va_get (D := D) (ci := 7) (v := .int (nI mm)) (C := RX7) (T := TX7) (N := 34) hx hb hts hi_7 hown hK hP 0 rfl rfl 1 (by decide) hf_65 (fun _ h9 => h9) rfl dX7_line_112 ?_
            refine lv_iconst (v := 1) hx hb dX7_line_115 (by decide) ?_
            refine lv_iadd hx hb dX7_line_116 ?_
            refine r_top (x' := nI (mm + 1)) (nI_add mm 1) ?_
            refine va_put (D := D) (ci := 7) (v := .int (nI (mm + 1))) (ty := .int) (C := RX7) (T := TX7) (N := 34) hx hb hts hi_7 tyX7 tyX7_ok nmX7 hown hK hP hD hS 0 rfl rfl 1 (by decide) hf_65 (fun _ h9 => h9) rfl (by decide +kernel) rfl rfl (Nat.le_of_ble_eq_true rfl) dX7_line_117 (fun H locs hP hD hS => ?_)
            have hP : va_P D vwCl [(mo, .inr (7, moV (nI nn) (nI (mm + 1)) me mj mw mp mu (zb (ke = true)) bd ml (nI sq) mq fi gu le cs (zb (ba = true)) ov m1 m2 m3 m4 lk (zb (sp = true)) bs bo m5 m6 m7 su sl m8 lo sh)), (me, .inl (cI, 48, .inl (upd (upd en (2 * mm) (nI aq)) ((2 * mm) + 1) (nI bq)))), (mj, .inl (cI, 10, .inl (upd (upd ne aq ((ne aq) ||| (1 <<< ((nI bq) &&& 31)))) bq (((upd ne aq ((ne aq) ||| (1 <<< ((nI bq) &&& 31)))) bq) ||| (1 <<< ((nI aq) &&& 31))))))] H := hP
            have hD : va_D A [(mo, .inr (7, moV (nI nn) (nI (mm + 1)) me mj mw mp mu (zb (ke = true)) bd ml (nI sq) mq fi gu le cs (zb (ba = true)) ov m1 m2 m3 m4 lk (zb (sp = true)) bs bo m5 m6 m7 su sl m8 lo sh)), (me, .inl (cI, 48, .inl (upd (upd en (2 * mm) (nI aq)) ((2 * mm) + 1) (nI bq)))), (mj, .inl (cI, 10, .inl (upd (upd ne aq ((ne aq) ||| (1 <<< ((nI bq) &&& 31)))) bq (((upd ne aq ((ne aq) ||| (1 <<< ((nI bq) &&& 31)))) bq) ||| (1 <<< ((nI aq) &&& 31))))))] := hD
            refine lv_aload_n hx hb dX7_line_120 rfl (lv_at hl 0 rfl) ?_
            refine va_get (D := D) (ci := 7) (v := .int (nI (mm + 1))) (C := RX7) (T := TX7) (N := 34) hx hb hts hi_7 hown hK hP 0 rfl rfl 1 (by decide) hf_65 (fun _ h9 => h9) rfl dX7_line_121 ?_
            refine lv_iconst (v := 1) hx hb dX7_line_124 (by decide) ?_
            refine lv_isub hx hb dX7_line_125 ?_
            refine r_top (x' := nI ((mm + 1) - 1)) (pk_sub (a := mm + 1) (b := 1) (by omega)) ?_
            exact endMI () hx hb hr hlocks hA hQ hS hP dX7_line_126 (by have hL : linkR nn mm ne (nI aq) (nI bq) = true := decide_eq_true ⟨⟨c_5, c_13⟩, c_22, by rw [ea]; exact c_40, c_53⟩; simp only [if_pos hL, ea, eb]) (by rw [lineR, if_pos ⟨c_5, c_13⟩, if_neg c_22, ea, if_neg (show ¬ bt (ne aq) (nI bq) = 1 from c_40), if_neg c_53] <;> rfl)
          · refine lv_sipush (v := (-1004)) hx hb dX7_line_56 (by decide) ?_
            exact endMI () hx hb hr hlocks hA hQ hS hP dX7_line_59 (by have hL : ¬ (linkR nn mm ne (nI aq) (nI bq) = true) := fun h => (of_decide_eq_true h).2.2.2 c_53; simp only [if_neg hL]) (by rw [lineR, if_pos ⟨c_5, c_13⟩, if_neg c_22, ea, if_neg (show ¬ bt (ne aq) (nI bq) = 1 from c_40), if_pos c_53])
        · refine lv_sipush (v := (-1003)) hx hb dX7_line_43 (by decide) ?_
          exact endMI () hx hb hr hlocks hA hQ hS hP dX7_line_46 (by have hL : ¬ (linkR nn mm ne (nI aq) (nI bq) = true) := fun h => (of_decide_eq_true h).2.2.1 (by rw [ea]; exact c_40); simp only [if_neg hL]) (by rw [lineR, if_pos ⟨c_5, c_13⟩, if_neg c_22, ea, if_pos (show bt (ne aq) (nI bq) = 1 from c_40)])
      · refine lv_sipush (v := (-1002)) hx hb dX7_line_25 (by decide) ?_
        exact endMI () hx hb hr hlocks hA hQ hS hP dX7_line_28 (by have hL : ¬ (linkR nn mm ne (nI aq) (nI bq) = true) := fun h => (of_decide_eq_true h).2.1 c_22; simp only [if_neg hL]) (by rw [lineR, if_pos ⟨c_5, c_13⟩, if_pos c_22])
    · refine lv_sipush (v := (-1001)) hx hb dX7_line_16 (by decide) ?_
      exact endMI () hx hb hr hlocks hA hQ hS hP dX7_line_19 (by have hL : ¬ (linkR nn mm ne a b = true) := fun h => (fun h => c_13 h.2) (of_decide_eq_true h).1; simp only [if_neg hL]) (by rw [lineR, if_neg (fun h => c_13 h.2)])
def rmX7_node : Room := { frames := 2, cells := 0, slots := 0, locals := 46 }
theorem kdX7_node : yX7_node.cls = RX7 ∧ yX7_node.cls ≠ "java/lang/invoke/MethodHandle" ∧ yX7_node.cls ≠ "java/lang/invoke/VarHandle" ∧ (parseMethodDescriptor yX7_node.desc).map (fun d => d.parameters.length) = some 3 := ⟨rfl, by decide +kernel, by decide +kernel, by decide +kernel⟩
set_option maxRecDepth 100000 in
set_option maxHeartbeats 1000000 in
theorem kX7_node (l : Launch) (D : va_G) (cI cJ : ClassId) (mo : Nat) (nn : Nat) (mm : Nat) (me : Nat) (mj : Nat) (mw : Nat) (mp : Nat) (mu : Nat) (ke : Bool) (bd : Int32) (ml : Nat) (sq : Nat) (mq : Nat) (fi : Int32) (gu : Int32) (le : Int32) (cs : Int32) (ba : Bool) (ov : Int32) (m1 : Nat) (m2 : Nat) (m3 : Nat) (m4 : Nat) (lk : Int32) (sp : Bool) (bs : Int32) (bo : Int32) (m5 : Nat) (m6 : Nat) (m7 : Nat) (su : Int32) (sl : Int32) (m8 : Nat) (lo : Int32) (sh : Int32) (wo : Row) (pr : Row) (k what v : Int32) (hn1 : 1 ≤ nn) (hn10 : nn ≤ 10) : Met l yX7_node wsX7_node rmX7_node (mPre D cI cJ [.ref mo, .int k, .int what, .int v] [(mo, .inr (7, moV (nI nn) (nI mm) me mj mw mp mu (zb (ke = true)) bd ml (nI sq) mq fi gu le cs (zb (ba = true)) ov m1 m2 m3 m4 lk (zb (sp = true)) bs bo m5 m6 m7 su sl m8 lo sh)), (mw, .inl (cI, 10, .inl wo)), (mp, .inl (cI, 10, .inl pr))]) (mQi D (fun (r : Int32) (_ : Unit) => r = ((nodeR (nI nn) wo pr k what v).1)) (fun (_ : Unit) => [(mo, .inr (7, moV (nI nn) (nI mm) me mj mw mp mu (zb (ke = true)) bd ml (nI sq) mq fi gu le cs (zb (ba = true)) ov m1 m2 m3 m4 lk (zb (sp = true)) bs bo m5 m6 m7 su sl m8 lo sh)), (mw, .inl (cI, 10, .inl ((nodeR (nI nn) wo pr k what v).2.1))), (mp, .inl (cI, 10, .inl ((nodeR (nI nn) wo pr k what v).2.2)))]) [(mo, .inr (7, moV (nI nn) (nI mm) me mj mw mp mu (zb (ke = true)) bd ml (nI sq) mq fi gu le cs (zb (ba = true)) ov m1 m2 m3 m4 lk (zb (sp = true)) bs bo m5 m6 m7 su sl m8 lo sh)), (mw, .inl (cI, 10, .inl wo)), (mp, .inl (cI, 10, .inl pr))]) 0 0 (mA [(mo, .inr (7, moV (nI nn) (nI mm) me mj mw mp mu (zb (ke = true)) bd ml (nI sq) mq fi gu le cs (zb (ba = true)) ov m1 m2 m3 m4 lk (zb (sp = true)) bs bo m5 m6 m7 su sl m8 lo sh)), (mw, .inl (cI, 10, .inl wo)), (mp, .inl (cI, 10, .inl pr))]) := by
  refine startM (cc := cX7_node) (maxL := 5) (ret := (some .int)) (by decide) rfl (Nat.le_of_ble_eq_true rfl) ?_
  intro p e s m args below meth c ls Q A hA hQ hx hb hr hlocks hml hown hts hK hN hP hD hl hin
  have hown : s.vm.findClass RX7 = some m.cls := hown
  have hi_7 : ∀ w ∈ wsX70, w ∈ wsX7_node := by decide +kernel
  have hf_20 := hts (.fieldLink RX7 20 "FireNetsModel" "worth" "[I") (by decide +kernel)
  have hf_23 := hts (.fieldLink RX7 23 "FireNetsModel" "price" "[I") (by decide +kernel)
  have hc_82 := hts (.constantLong RX7 82 (9)) (by decide +kernel)
  have hS : va_S A s.heap s.heap [] := va_S.rf
  have hl : lv_has ls 5 [(0, .ref mo), (1, .int k), (2, .int what), (3, .int v)] := hl
  have hP : va_P D vwCl [(mo, .inr (7, moV (nI nn) (nI mm) me mj mw mp mu (zb (ke = true)) bd ml (nI sq) mq fi gu le cs (zb (ba = true)) ov m1 m2 m3 m4 lk (zb (sp = true)) bs bo m5 m6 m7 su sl m8 lo sh)), (mw, .inl (cI, 10, .inl wo)), (mp, .inl (cI, 10, .inl pr))] s.heap := hP
  refine lv_aload_n hx hb dX7_node_0 rfl (lv_at hl 0 rfl) ?_
  refine lv_iload_n hx hb dX7_node_1 rfl (lv_at hl 1 rfl) ?_
  refine goRI hP hS (va_runV (As := [.int k]) (rest := []) ⟨hx, hb, hml, hown, hts⟩ (kX7_isNode l D cI cJ mo nn mm me mj mw mp mu ke bd ml sq mq fi gu le cs ba ov m1 m2 m3 m4 lk sp bs bo m5 m6 m7 su sl m8 lo sh k) (cwV 1 hts gX7_node_X7_isNode rfl rfl rfl kdX7_isNode ⟨Nat.le_of_ble_eq_true rfl, Nat.le_of_ble_eq_true rfl⟩) (preRV hK hN hP 0 (ci := 7) rfl rfl rfl [0] rfl) rfl rfl hl.1 rfl (lv_room (Nat.le_of_ble_eq_true rfl)) dX7_node_2 ⟨Nat.zero_le _, Nat.zero_le _⟩) (fun H locs hP hS => ?_)
  refine r_zne (tgt := 12) hx hb dX7_node_5 (by decide) (fun c_5 => ?_) (fun c_5 => ?_)
  · obtain ⟨kq, hkq, rfl⟩ := (i_hasE hn10 hn1 c_5)
    refine lv_iload_n hx hb dX7_node_12 rfl (lv_at hl 2 rfl) ?_
    refine lv_i2l (v := what.toInt64) hx hb dX7_node_13 rfl ?_
    refine lv_lconst (v := 0) hx hb dX7_node_14 (by decide) ?_
    refine lv_lconst (v := 1) hx hb dX7_node_15 (by decide) ?_
    refine goRI hP hS (va_runS (As := [.long what.toInt64, .long 0, .long 1]) (rest := []) ⟨hx, hb, hml, hown, hts⟩ (kX7_in l D cI cJ what.toInt64 0 1) (va_cwS 3 hts gX7_node_X7_in rfl rfl rfl kdX7_in.2 ⟨Nat.le_of_ble_eq_true rfl, Nat.le_of_ble_eq_true rfl⟩) (preR hK hN hP [] rfl) rfl rfl hl.1 rfl (lv_room (Nat.le_of_ble_eq_true rfl)) dX7_node_16 ⟨Nat.zero_le _, Nat.zero_le _⟩) (fun H locs hP hS => ?_)
    refine r_top (x' := zb (0 ≤ what ∧ what ≤ 1)) (zb_iff (in_c (by first | rfl | decide) (by first | rfl | decide))) ?_
    refine r_zeq (tgt := 35) hx hb dX7_node_19 (by decide) (fun c_19 => ?_) (fun c_19 => ?_)
    · refine lv_sipush (v := (-1002)) hx hb dX7_node_35 (by decide) ?_
      exact endMI () hx hb hr hlocks hA hQ hS hP dX7_node_38 (by unfold nodeR; (first | rw [if_pos c_5] | rw [if_neg c_5] | rw [if_neg (Nat.not_lt.mpr c_5)] | rw [if_neg (Nat.not_le.mpr c_5)] | rw [if_neg (i_nlt c_5)] | rw [if_neg (i_nle c_5)] | rw [if_pos (i_lt c_5)] | rw [if_pos (i_le c_5)]); (first | rw [if_pos c_19] | rw [if_neg c_19] | rw [if_neg (Nat.not_lt.mpr c_19)] | rw [if_neg (Nat.not_le.mpr c_19)] | rw [if_neg (i_nlt c_19)] | rw [if_neg (i_nle c_19)] | rw [if_pos (i_lt c_19)] | rw [if_pos (i_le c_19)])) (by unfold nodeR; (first | rw [if_pos c_5] | rw [if_neg c_5] | rw [if_neg (Nat.not_lt.mpr c_5)] | rw [if_neg (Nat.not_le.mpr c_5)] | rw [if_neg (i_nlt c_5)] | rw [if_neg (i_nle c_5)] | rw [if_pos (i_lt c_5)] | rw [if_pos (i_le c_5)]); (first | rw [if_pos c_19] | rw [if_neg c_19] | rw [if_neg (Nat.not_lt.mpr c_19)] | rw [if_neg (Nat.not_le.mpr c_19)] | rw [if_neg (i_nlt c_19)] | rw [if_neg (i_nle c_19)] | rw [if_pos (i_lt c_19)] | rw [if_pos (i_le c_19)]))
    · refine lv_iload_n hx hb dX7_node_22 rfl (lv_at hl 3 rfl) ?_
      refine lv_i2l (v := v.toInt64) hx hb dX7_node_23 rfl ?_
      refine lv_iload_n hx hb dX7_node_24 rfl (lv_at hl 2 rfl) ?_
      refine lv_i2l (v := what.toInt64) hx hb dX7_node_25 rfl ?_
      refine lv_ldc2 (v := 9) hx hb hown hc_82 dX7_node_26 ?_
      refine goRI hP hS (va_runS (As := [.long v.toInt64, .long what.toInt64, .long 9]) (rest := []) ⟨hx, hb, hml, hown, hts⟩ (kX7_in l D cI cJ v.toInt64 what.toInt64 9) (va_cwS 3 hts gX7_node_X7_in rfl rfl rfl kdX7_in.2 ⟨Nat.le_of_ble_eq_true rfl, Nat.le_of_ble_eq_true rfl⟩) (preR hK hN hP [] rfl) rfl rfl hl.1 rfl (lv_room (Nat.le_of_ble_eq_true rfl)) dX7_node_29 ⟨Nat.zero_le _, Nat.zero_le _⟩) (fun H locs hP hS => ?_)
      refine r_top (x' := zb (what ≤ v ∧ v ≤ 9)) (zb_iff (in_c (by first | rfl | decide) (by first | rfl | decide))) ?_
      refine r_zne (tgt := 39) hx hb dX7_node_32 (by decide) (fun c_32 => ?_) (fun c_32 => ?_)
      · refine lv_iload_n hx hb dX7_node_39 rfl (lv_at hl 2 rfl) ?_
        refine lv_if_ne (tgt := 52) hx hb dX7_node_40 (by decide) (fun c_40 => ?_) (fun c_40 => ?_)
        · refine lv_aload_n hx hb dX7_node_52 rfl (lv_at hl 0 rfl) ?_
          refine va_get (D := D) (ci := 7) (v := .ref mp) (C := RX7) (T := TX7) (N := 34) hx hb hts hi_7 hown hK hP 0 rfl rfl 5 (by decide) hf_23 (fun _ h9 => h9) rfl dX7_node_53 ?_
          refine lv_iload_n hx hb dX7_node_56 rfl (lv_at hl 1 rfl) ?_
          refine r_iald hx hb hK hP 2 rfl kq rfl (by omega) (by omega) dX7_node_57 ?_
          refine lv_istore (lv' := [(4, .int (pr kq)), (0, .ref mo), (1, .int (nI kq)), (2, .int what), (3, .int v)]) hx hb dX7_node_58 hl (by decide) rfl (fun ls hl => ?_)
          refine lv_iload_n hx hb dX7_node_60 rfl (lv_at hl 3 rfl) ?_
          refine lv_if_ne (tgt := 74) hx hb dX7_node_61 (by decide) (fun c_61 => ?_) (fun c_61 => ?_)
          · refine lv_aload_n hx hb dX7_node_74 rfl (lv_at hl 1 rfl) ?_
            refine va_get (D := D) (ci := 7) (v := .ref mp) (C := RX7) (T := TX7) (N := 34) hx hb hts hi_7 hown hK hP 0 rfl rfl 5 (by decide) hf_23 (fun _ h9 => h9) rfl dX7_node_75 ?_
            refine lv_iload_n hx hb dX7_node_78 rfl (lv_at hl 2 rfl) ?_
            refine lv_iload_n hx hb dX7_node_79 rfl (lv_at hl 4 rfl) ?_
            refine r_iast hx hb hK hP hD hS 2 rfl kq rfl (by omega) (by omega) dX7_node_80 (fun H locs hP hD hS => ?_)
            have hP : va_P D vwCl [(mo, .inr (7, moV (nI nn) (nI mm) me mj mw mp mu (zb (ke = true)) bd ml (nI sq) mq fi gu le cs (zb (ba = true)) ov m1 m2 m3 m4 lk (zb (sp = true)) bs bo m5 m6 m7 su sl m8 lo sh)), (mw, .inl (cI, 10, .inl wo)), (mp, .inl (cI, 10, .inl (upd pr kq v)))] H := hP
            have hD : va_D A [(mo, .inr (7, moV (nI nn) (nI mm) me mj mw mp mu (zb (ke = true)) bd ml (nI sq) mq fi gu le cs (zb (ba = true)) ov m1 m2 m3 m4 lk (zb (sp = true)) bs bo m5 m6 m7 su sl m8 lo sh)), (mw, .inl (cI, 10, .inl wo)), (mp, .inl (cI, 10, .inl (upd pr kq v)))] := hD
            refine lv_iload hx hb dX7_node_81 (lv_at hl 0 rfl) ?_
            exact endMI () hx hb hr hlocks hA hQ hS hP dX7_node_83 (by unfold nodeR; (first | rw [if_pos c_5] | rw [if_neg c_5] | rw [if_neg (Nat.not_lt.mpr c_5)] | rw [if_neg (Nat.not_le.mpr c_5)] | rw [if_neg (i_nlt c_5)] | rw [if_neg (i_nle c_5)] | rw [if_pos (i_lt c_5)] | rw [if_pos (i_le c_5)]); (first | rw [if_pos c_19] | rw [if_neg c_19] | rw [if_neg (Nat.not_lt.mpr c_19)] | rw [if_neg (Nat.not_le.mpr c_19)] | rw [if_neg (i_nlt c_19)] | rw [if_neg (i_nle c_19)] | rw [if_pos (i_lt c_19)] | rw [if_pos (i_le c_19)]); (first | rw [if_pos c_32] | rw [if_neg c_32] | rw [if_neg (Nat.not_lt.mpr c_32)] | rw [if_neg (Nat.not_le.mpr c_32)] | rw [if_neg (i_nlt c_32)] | rw [if_neg (i_nle c_32)] | rw [if_pos (i_lt c_32)] | rw [if_pos (i_le c_32)]); (first | rw [if_pos c_40] | rw [if_neg c_40] | rw [if_neg (Nat.not_lt.mpr c_40)] | rw [if_neg (Nat.not_le.mpr c_40)] | rw [if_neg (i_nlt c_40)] | rw [if_neg (i_nle c_40)] | rw [if_pos (i_lt c_40)] | rw [if_pos (i_le c_40)]); rw [nI_clamp (show kq < 2 ^ 31 by omega)]) (by unfold nodeR; (first | rw [if_pos c_5] | rw [if_neg c_5] | rw [if_neg (Nat.not_lt.mpr c_5)] | rw [if_neg (Nat.not_le.mpr c_5)] | rw [if_neg (i_nlt c_5)] | rw [if_neg (i_nle c_5)] | rw [if_pos (i_lt c_5)] | rw [if_pos (i_le c_5)]); (first | rw [if_pos c_19] | rw [if_neg c_19] | rw [if_neg (Nat.not_lt.mpr c_19)] | rw [if_neg (Nat.not_le.mpr c_19)] | rw [if_neg (i_nlt c_19)] | rw [if_neg (i_nle c_19)] | rw [if_pos (i_lt c_19)] | rw [if_pos (i_le c_19)]); (first | rw [if_pos c_32] | rw [if_neg c_32] | rw [if_neg (Nat.not_lt.mpr c_32)] | rw [if_neg (Nat.not_le.mpr c_32)] | rw [if_neg (i_nlt c_32)] | rw [if_neg (i_nle c_32)] | rw [if_pos (i_lt c_32)] | rw [if_pos (i_le c_32)]); (first | rw [if_pos c_40] | rw [if_neg c_40] | rw [if_neg (Nat.not_lt.mpr c_40)] | rw [if_neg (Nat.not_le.mpr c_40)] | rw [if_neg (i_nlt c_40)] | rw [if_neg (i_nle c_40)] | rw [if_pos (i_lt c_40)] | rw [if_pos (i_le c_40)]); rw [nI_clamp (show kq < 2 ^ 31 by omega)])
          · exact absurd c_61 c_40
        · refine lv_aload_n hx hb dX7_node_43 rfl (lv_at hl 0 rfl) ?_
          refine va_get (D := D) (ci := 7) (v := .ref mw) (C := RX7) (T := TX7) (N := 34) hx hb hts hi_7 hown hK hP 0 rfl rfl 4 (by decide) hf_20 (fun _ h9 => h9) rfl dX7_node_44 ?_
          refine lv_iload_n hx hb dX7_node_47 rfl (lv_at hl 1 rfl) ?_
          refine r_iald hx hb hK hP 1 rfl kq rfl (by omega) (by omega) dX7_node_48 ?_
          refine lv_goto (tgt := 58) hx hb dX7_node_49 (by decide) ?_
          refine lv_istore (lv' := [(4, .int (wo kq)), (0, .ref mo), (1, .int (nI kq)), (2, .int what), (3, .int v)]) hx hb dX7_node_58 hl (by decide) rfl (fun ls hl => ?_)
          refine lv_iload_n hx hb dX7_node_60 rfl (lv_at hl 3 rfl) ?_
          refine lv_if_ne (tgt := 74) hx hb dX7_node_61 (by decide) (fun c_61 => ?_) (fun c_61 => ?_)
          · exact absurd c_40 c_61
          · refine lv_aload_n hx hb dX7_node_64 rfl (lv_at hl 1 rfl) ?_
            refine va_get (D := D) (ci := 7) (v := .ref mw) (C := RX7) (T := TX7) (N := 34) hx hb hts hi_7 hown hK hP 0 rfl rfl 4 (by decide) hf_20 (fun _ h9 => h9) rfl dX7_node_65 ?_
            refine lv_iload_n hx hb dX7_node_68 rfl (lv_at hl 2 rfl) ?_
            refine lv_iload_n hx hb dX7_node_69 rfl (lv_at hl 4 rfl) ?_
            refine r_iast hx hb hK hP hD hS 1 rfl kq rfl (by omega) (by omega) dX7_node_70 (fun H locs hP hD hS => ?_)
            have hP : va_P D vwCl [(mo, .inr (7, moV (nI nn) (nI mm) me mj mw mp mu (zb (ke = true)) bd ml (nI sq) mq fi gu le cs (zb (ba = true)) ov m1 m2 m3 m4 lk (zb (sp = true)) bs bo m5 m6 m7 su sl m8 lo sh)), (mw, .inl (cI, 10, .inl (upd wo kq v))), (mp, .inl (cI, 10, .inl pr))] H := hP
            have hD : va_D A [(mo, .inr (7, moV (nI nn) (nI mm) me mj mw mp mu (zb (ke = true)) bd ml (nI sq) mq fi gu le cs (zb (ba = true)) ov m1 m2 m3 m4 lk (zb (sp = true)) bs bo m5 m6 m7 su sl m8 lo sh)), (mw, .inl (cI, 10, .inl (upd wo kq v))), (mp, .inl (cI, 10, .inl pr))] := hD
            refine lv_goto (tgt := 81) hx hb dX7_node_71 (by decide) ?_
            refine lv_iload hx hb dX7_node_81 (lv_at hl 0 rfl) ?_
            exact endMI () hx hb hr hlocks hA hQ hS hP dX7_node_83 (by unfold nodeR; (first | rw [if_pos c_5] | rw [if_neg c_5] | rw [if_neg (Nat.not_lt.mpr c_5)] | rw [if_neg (Nat.not_le.mpr c_5)] | rw [if_neg (i_nlt c_5)] | rw [if_neg (i_nle c_5)] | rw [if_pos (i_lt c_5)] | rw [if_pos (i_le c_5)]); (first | rw [if_pos c_19] | rw [if_neg c_19] | rw [if_neg (Nat.not_lt.mpr c_19)] | rw [if_neg (Nat.not_le.mpr c_19)] | rw [if_neg (i_nlt c_19)] | rw [if_neg (i_nle c_19)] | rw [if_pos (i_lt c_19)] | rw [if_pos (i_le c_19)]); (first | rw [if_pos c_32] | rw [if_neg c_32] | rw [if_neg (Nat.not_lt.mpr c_32)] | rw [if_neg (Nat.not_le.mpr c_32)] | rw [if_neg (i_nlt c_32)] | rw [if_neg (i_nle c_32)] | rw [if_pos (i_lt c_32)] | rw [if_pos (i_le c_32)]); (first | rw [if_pos c_40] | rw [if_neg c_40] | rw [if_neg (Nat.not_lt.mpr c_40)] | rw [if_neg (Nat.not_le.mpr c_40)] | rw [if_neg (i_nlt c_40)] | rw [if_neg (i_nle c_40)] | rw [if_pos (i_lt c_40)] | rw [if_pos (i_le c_40)]); rw [nI_clamp (show kq < 2 ^ 31 by omega)]) (by unfold nodeR; (first | rw [if_pos c_5] | rw [if_neg c_5] | rw [if_neg (Nat.not_lt.mpr c_5)] | rw [if_neg (Nat.not_le.mpr c_5)] | rw [if_neg (i_nlt c_5)] | rw [if_neg (i_nle c_5)] | rw [if_pos (i_lt c_5)] | rw [if_pos (i_le c_5)]); (first | rw [if_pos c_19] | rw [if_neg c_19] | rw [if_neg (Nat.not_lt.mpr c_19)] | rw [if_neg (Nat.not_le.mpr c_19)] | rw [if_neg (i_nlt c_19)] | rw [if_neg (i_nle c_19)] | rw [if_pos (i_lt c_19)] | rw [if_pos (i_le c_19)]); (first | rw [if_pos c_32] | rw [if_neg c_32] | rw [if_neg (Nat.not_lt.mpr c_32)] | rw [if_neg (Nat.not_le.mpr c_32)] | rw [if_neg (i_nlt c_32)] | rw [if_neg (i_nle c_32)] | rw [if_pos (i_lt c_32)] | rw [if_pos (i_le c_32)]); (first | rw [if_pos c_40] | rw [if_neg c_40] | rw [if_neg (Nat.not_lt.mpr c_40)] | rw [if_neg (Nat.not_le.mpr c_40)] | rw [if_neg (i_nlt c_40)] | rw [if_neg (i_nle c_40)] | rw [if_pos (i_lt c_40)] | rw [if_pos (i_le c_40)]); rw [nI_clamp (show kq < 2 ^ 31 by omega)])
      · refine lv_sipush (v := (-1002)) hx hb dX7_node_35 (by decide) ?_
        exact endMI () hx hb hr hlocks hA hQ hS hP dX7_node_38 (by unfold nodeR; (first | rw [if_pos c_5] | rw [if_neg c_5] | rw [if_neg (Nat.not_lt.mpr c_5)] | rw [if_neg (Nat.not_le.mpr c_5)] | rw [if_neg (i_nlt c_5)] | rw [if_neg (i_nle c_5)] | rw [if_pos (i_lt c_5)] | rw [if_pos (i_le c_5)]); (first | rw [if_pos c_19] | rw [if_neg c_19] | rw [if_neg (Nat.not_lt.mpr c_19)] | rw [if_neg (Nat.not_le.mpr c_19)] | rw [if_neg (i_nlt c_19)] | rw [if_neg (i_nle c_19)] | rw [if_pos (i_lt c_19)] | rw [if_pos (i_le c_19)]); (first | rw [if_pos c_32] | rw [if_neg c_32] | rw [if_neg (Nat.not_lt.mpr c_32)] | rw [if_neg (Nat.not_le.mpr c_32)] | rw [if_neg (i_nlt c_32)] | rw [if_neg (i_nle c_32)] | rw [if_pos (i_lt c_32)] | rw [if_pos (i_le c_32)])) (by unfold nodeR; (first | rw [if_pos c_5] | rw [if_neg c_5] | rw [if_neg (Nat.not_lt.mpr c_5)] | rw [if_neg (Nat.not_le.mpr c_5)] | rw [if_neg (i_nlt c_5)] | rw [if_neg (i_nle c_5)] | rw [if_pos (i_lt c_5)] | rw [if_pos (i_le c_5)]); (first | rw [if_pos c_19] | rw [if_neg c_19] | rw [if_neg (Nat.not_lt.mpr c_19)] | rw [if_neg (Nat.not_le.mpr c_19)] | rw [if_neg (i_nlt c_19)] | rw [if_neg (i_nle c_19)] | rw [if_pos (i_lt c_19)] | rw [if_pos (i_le c_19)]); (first | rw [if_pos c_32] | rw [if_neg c_32] | rw [if_neg (Nat.not_lt.mpr c_32)] | rw [if_neg (Nat.not_le.mpr c_32)] | rw [if_neg (i_nlt c_32)] | rw [if_neg (i_nle c_32)] | rw [if_pos (i_lt c_32)] | rw [if_pos (i_le c_32)]))
  · refine lv_sipush (v := (-1001)) hx hb dX7_node_8 (by decide) ?_
    exact endMI () hx hb hr hlocks hA hQ hS hP dX7_node_11 (by unfold nodeR; (first | rw [if_pos c_5] | rw [if_neg c_5] | rw [if_neg (Nat.not_lt.mpr c_5)] | rw [if_neg (Nat.not_le.mpr c_5)] | rw [if_neg (i_nlt c_5)] | rw [if_neg (i_nle c_5)] | rw [if_pos (i_lt c_5)] | rw [if_pos (i_le c_5)])) (by unfold nodeR; (first | rw [if_pos c_5] | rw [if_neg c_5] | rw [if_neg (Nat.not_lt.mpr c_5)] | rw [if_neg (Nat.not_le.mpr c_5)] | rw [if_neg (i_nlt c_5)] | rw [if_neg (i_nle c_5)] | rw [if_pos (i_lt c_5)] | rw [if_pos (i_le c_5)]))
def rmX7_purse : Room := { frames := 1, cells := 0, slots := 0, locals := 25 }
theorem kdX7_purse : yX7_purse.cls = RX7 ∧ yX7_purse.cls ≠ "java/lang/invoke/MethodHandle" ∧ yX7_purse.cls ≠ "java/lang/invoke/VarHandle" ∧ (parseMethodDescriptor yX7_purse.desc).map (fun d => d.parameters.length) = some 2 := ⟨rfl, by decide +kernel, by decide +kernel, by decide +kernel⟩
set_option maxRecDepth 100000 in
set_option maxHeartbeats 1000000 in
theorem kX7_purse (l : Launch) (D : va_G) (cI cJ : ClassId) (mo : Nat) (nn : Nat) (mm : Nat) (me : Nat) (mj : Nat) (mw : Nat) (mp : Nat) (mu : Nat) (ke : Bool) (bd : Int32) (ml : Nat) (sq : Nat) (mq : Nat) (fi : Int32) (gu : Int32) (le : Int32) (cs : Int32) (ba : Bool) (ov : Int32) (m1 : Nat) (m2 : Nat) (m3 : Nat) (m4 : Nat) (lk : Int32) (sp : Bool) (bs : Int32) (bo : Int32) (m5 : Nat) (m6 : Nat) (m7 : Nat) (su : Int32) (sl : Int32) (m8 : Nat) (lo : Int32) (sh : Int32) (ow : Row) (t v : Int32)  : Met l yX7_purse wsX7_purse rmX7_purse (mPre D cI cJ [.ref mo, .int t, .int v] [(mo, .inr (7, moV (nI nn) (nI mm) me mj mw mp mu (zb (ke = true)) bd ml (nI sq) mq fi gu le cs (zb (ba = true)) ov m1 m2 m3 m4 lk (zb (sp = true)) bs bo m5 m6 m7 su sl m8 lo sh)), (mu, .inl (cI, 9, .inl ow))]) (mQi D (fun (r : Int32) (_ : Unit) => r = ((purseR ow t v).1)) (fun (_ : Unit) => [(mo, .inr (7, moV (nI nn) (nI mm) me mj mw mp mu (zb (ke = true)) bd ml (nI sq) mq fi gu le cs (zb (ba = true)) ov m1 m2 m3 m4 lk (zb (sp = true)) bs bo m5 m6 m7 su sl m8 lo sh)), (mu, .inl (cI, 9, .inl ((purseR ow t v).2)))]) [(mo, .inr (7, moV (nI nn) (nI mm) me mj mw mp mu (zb (ke = true)) bd ml (nI sq) mq fi gu le cs (zb (ba = true)) ov m1 m2 m3 m4 lk (zb (sp = true)) bs bo m5 m6 m7 su sl m8 lo sh)), (mu, .inl (cI, 9, .inl ow))]) 0 0 (mA [(mo, .inr (7, moV (nI nn) (nI mm) me mj mw mp mu (zb (ke = true)) bd ml (nI sq) mq fi gu le cs (zb (ba = true)) ov m1 m2 m3 m4 lk (zb (sp = true)) bs bo m5 m6 m7 su sl m8 lo sh)), (mu, .inl (cI, 9, .inl ow))]) := by
  refine startM (cc := cX7_purse) (maxL := 4) (ret := (some .int)) (by decide) rfl (Nat.le_of_ble_eq_true rfl) ?_
  intro p e s m args below meth c ls Q A hA hQ hx hb hr hlocks hml hown hts hK hN hP hD hl hin
  have hown : s.vm.findClass RX7 = some m.cls := hown
  have hi_7 : ∀ w ∈ wsX70, w ∈ wsX7_purse := by decide +kernel
  have hf_26 := hts (.fieldLink RX7 26 "FireNetsModel" "purse" "[I") (by decide +kernel)
  have hc_84 := hts (.constantLong RX7 84 (8)) (by decide +kernel)
  have hc_86 := hts (.constantLong RX7 86 (20)) (by decide +kernel)
  have hS : va_S A s.heap s.heap [] := va_S.rf
  have hl : lv_has ls 4 [(0, .ref mo), (1, .int t), (2, .int v)] := hl
  have hP : va_P D vwCl [(mo, .inr (7, moV (nI nn) (nI mm) me mj mw mp mu (zb (ke = true)) bd ml (nI sq) mq fi gu le cs (zb (ba = true)) ov m1 m2 m3 m4 lk (zb (sp = true)) bs bo m5 m6 m7 su sl m8 lo sh)), (mu, .inl (cI, 9, .inl ow))] s.heap := hP
  refine lv_iload_n hx hb dX7_purse_0 rfl (lv_at hl 1 rfl) ?_
  refine lv_i2l (v := t.toInt64) hx hb dX7_purse_1 rfl ?_
  refine lv_lconst (v := 1) hx hb dX7_purse_2 (by decide) ?_
  refine lv_ldc2 (v := 8) hx hb hown hc_84 dX7_purse_3 ?_
  refine goRI hP hS (va_runS (As := [.long t.toInt64, .long 1, .long 8]) (rest := []) ⟨hx, hb, hml, hown, hts⟩ (kX7_in l D cI cJ t.toInt64 1 8) (va_cwS 3 hts gX7_purse_X7_in rfl rfl rfl kdX7_in.2 ⟨Nat.le_of_ble_eq_true rfl, Nat.le_of_ble_eq_true rfl⟩) (preR hK hN hP [] rfl) rfl rfl hl.1 rfl (lv_room (Nat.le_of_ble_eq_true rfl)) dX7_purse_6 ⟨Nat.zero_le _, Nat.zero_le _⟩) (fun H locs hP hS => ?_)
  refine r_top (x' := zb (1 ≤ t ∧ t ≤ 8)) (zb_iff (in_c (by first | rfl | decide) (by first | rfl | decide))) ?_
  refine r_zeq (tgt := 24) hx hb dX7_purse_9 (by decide) (fun c_9 => ?_) (fun c_9 => ?_)
  · refine lv_sipush (v := (-1002)) hx hb dX7_purse_24 (by decide) ?_
    exact endMI () hx hb hr hlocks hA hQ hS hP dX7_purse_27 (by unfold purseR; (first | rw [if_pos c_9] | rw [if_neg c_9] | rw [if_neg (Nat.not_lt.mpr c_9)] | rw [if_neg (Nat.not_le.mpr c_9)] | rw [if_neg (i_nlt c_9)] | rw [if_neg (i_nle c_9)] | rw [if_pos (i_lt c_9)] | rw [if_pos (i_le c_9)])) (by unfold purseR; (first | rw [if_pos c_9] | rw [if_neg c_9] | rw [if_neg (Nat.not_lt.mpr c_9)] | rw [if_neg (Nat.not_le.mpr c_9)] | rw [if_neg (i_nlt c_9)] | rw [if_neg (i_nle c_9)] | rw [if_pos (i_lt c_9)] | rw [if_pos (i_le c_9)]))
  · refine lv_iload_n hx hb dX7_purse_12 rfl (lv_at hl 2 rfl) ?_
    refine lv_i2l (v := v.toInt64) hx hb dX7_purse_13 rfl ?_
    refine lv_lconst (v := 0) hx hb dX7_purse_14 (by decide) ?_
    refine lv_ldc2 (v := 20) hx hb hown hc_86 dX7_purse_15 ?_
    refine goRI hP hS (va_runS (As := [.long v.toInt64, .long 0, .long 20]) (rest := []) ⟨hx, hb, hml, hown, hts⟩ (kX7_in l D cI cJ v.toInt64 0 20) (va_cwS 3 hts gX7_purse_X7_in rfl rfl rfl kdX7_in.2 ⟨Nat.le_of_ble_eq_true rfl, Nat.le_of_ble_eq_true rfl⟩) (preR hK hN hP [] rfl) rfl rfl hl.1 rfl (lv_room (Nat.le_of_ble_eq_true rfl)) dX7_purse_18 ⟨Nat.zero_le _, Nat.zero_le _⟩) (fun H locs hP hS => ?_)
    refine r_top (x' := zb (0 ≤ v ∧ v ≤ 20)) (zb_iff (in_c (by first | rfl | decide) (by first | rfl | decide))) ?_
    refine r_zne (tgt := 28) hx hb dX7_purse_21 (by decide) (fun c_21 => ?_) (fun c_21 => ?_)
    · obtain ⟨tq, htq, rfl⟩ := (tick_ix c_9)
      refine lv_aload_n hx hb dX7_purse_28 rfl (lv_at hl 0 rfl) ?_
      refine va_get (D := D) (ci := 7) (v := .ref mu) (C := RX7) (T := TX7) (N := 34) hx hb hts hi_7 hown hK hP 0 rfl rfl 6 (by decide) hf_26 (fun _ h9 => h9) rfl dX7_purse_29 ?_
      refine lv_iload_n hx hb dX7_purse_32 rfl (lv_at hl 1 rfl) ?_
      refine r_iald hx hb hK hP 1 rfl tq rfl (by omega) (by omega) dX7_purse_33 ?_
      refine lv_istore_n (lv' := [(3, .int (ow tq)), (0, .ref mo), (1, .int (nI tq)), (2, .int v)]) hx hb dX7_purse_34 rfl hl (by decide) rfl (fun ls hl => ?_)
      refine lv_aload_n hx hb dX7_purse_35 rfl (lv_at hl 1 rfl) ?_
      refine va_get (D := D) (ci := 7) (v := .ref mu) (C := RX7) (T := TX7) (N := 34) hx hb hts hi_7 hown hK hP 0 rfl rfl 6 (by decide) hf_26 (fun _ h9 => h9) rfl dX7_purse_36 ?_
      refine lv_iload_n hx hb dX7_purse_39 rfl (lv_at hl 2 rfl) ?_
      refine lv_iload_n hx hb dX7_purse_40 rfl (lv_at hl 3 rfl) ?_
      refine r_iast hx hb hK hP hD hS 1 rfl tq rfl (by omega) (by omega) dX7_purse_41 (fun H locs hP hD hS => ?_)
      have hP : va_P D vwCl [(mo, .inr (7, moV (nI nn) (nI mm) me mj mw mp mu (zb (ke = true)) bd ml (nI sq) mq fi gu le cs (zb (ba = true)) ov m1 m2 m3 m4 lk (zb (sp = true)) bs bo m5 m6 m7 su sl m8 lo sh)), (mu, .inl (cI, 9, .inl (upd ow tq v)))] H := hP
      have hD : va_D A [(mo, .inr (7, moV (nI nn) (nI mm) me mj mw mp mu (zb (ke = true)) bd ml (nI sq) mq fi gu le cs (zb (ba = true)) ov m1 m2 m3 m4 lk (zb (sp = true)) bs bo m5 m6 m7 su sl m8 lo sh)), (mu, .inl (cI, 9, .inl (upd ow tq v)))] := hD
      refine lv_iload_n hx hb dX7_purse_42 rfl (lv_at hl 0 rfl) ?_
      exact endMI () hx hb hr hlocks hA hQ hS hP dX7_purse_43 (by unfold purseR; (first | rw [if_pos c_9] | rw [if_neg c_9] | rw [if_neg (Nat.not_lt.mpr c_9)] | rw [if_neg (Nat.not_le.mpr c_9)] | rw [if_neg (i_nlt c_9)] | rw [if_neg (i_nle c_9)] | rw [if_pos (i_lt c_9)] | rw [if_pos (i_le c_9)]); (first | rw [if_pos c_21] | rw [if_neg c_21] | rw [if_neg (Nat.not_lt.mpr c_21)] | rw [if_neg (Nat.not_le.mpr c_21)] | rw [if_neg (i_nlt c_21)] | rw [if_neg (i_nle c_21)] | rw [if_pos (i_lt c_21)] | rw [if_pos (i_le c_21)]); rw [nI_clamp (by omega)]) (by unfold purseR; (first | rw [if_pos c_9] | rw [if_neg c_9] | rw [if_neg (Nat.not_lt.mpr c_9)] | rw [if_neg (Nat.not_le.mpr c_9)] | rw [if_neg (i_nlt c_9)] | rw [if_neg (i_nle c_9)] | rw [if_pos (i_lt c_9)] | rw [if_pos (i_le c_9)]); (first | rw [if_pos c_21] | rw [if_neg c_21] | rw [if_neg (Nat.not_lt.mpr c_21)] | rw [if_neg (Nat.not_le.mpr c_21)] | rw [if_neg (i_nlt c_21)] | rw [if_neg (i_nle c_21)] | rw [if_pos (i_lt c_21)] | rw [if_pos (i_le c_21)]); rw [nI_clamp (by omega)])
    · refine lv_sipush (v := (-1002)) hx hb dX7_purse_24 (by decide) ?_
      exact endMI () hx hb hr hlocks hA hQ hS hP dX7_purse_27 (by unfold purseR; (first | rw [if_pos c_9] | rw [if_neg c_9] | rw [if_neg (Nat.not_lt.mpr c_9)] | rw [if_neg (Nat.not_le.mpr c_9)] | rw [if_neg (i_nlt c_9)] | rw [if_neg (i_nle c_9)] | rw [if_pos (i_lt c_9)] | rw [if_pos (i_le c_9)]); (first | rw [if_pos c_21] | rw [if_neg c_21] | rw [if_neg (Nat.not_lt.mpr c_21)] | rw [if_neg (Nat.not_le.mpr c_21)] | rw [if_neg (i_nlt c_21)] | rw [if_neg (i_nle c_21)] | rw [if_pos (i_lt c_21)] | rw [if_pos (i_le c_21)])) (by unfold purseR; (first | rw [if_pos c_9] | rw [if_neg c_9] | rw [if_neg (Nat.not_lt.mpr c_9)] | rw [if_neg (Nat.not_le.mpr c_9)] | rw [if_neg (i_nlt c_9)] | rw [if_neg (i_nle c_9)] | rw [if_pos (i_lt c_9)] | rw [if_pos (i_le c_9)]); (first | rw [if_pos c_21] | rw [if_neg c_21] | rw [if_neg (Nat.not_lt.mpr c_21)] | rw [if_neg (Nat.not_le.mpr c_21)] | rw [if_neg (i_nlt c_21)] | rw [if_neg (i_nle c_21)] | rw [if_pos (i_lt c_21)] | rw [if_pos (i_le c_21)]))
def rmX7_plan : Room := { frames := 1, cells := 0, slots := 0, locals := 25 }
theorem kdX7_plan : yX7_plan.cls = RX7 ∧ yX7_plan.cls ≠ "java/lang/invoke/MethodHandle" ∧ yX7_plan.cls ≠ "java/lang/invoke/VarHandle" ∧ (parseMethodDescriptor yX7_plan.desc).map (fun d => d.parameters.length) = some 2 := ⟨rfl, by decide +kernel, by decide +kernel, by decide +kernel⟩
set_option maxRecDepth 100000 in
set_option maxHeartbeats 1000000 in
theorem kX7_plan (l : Launch) (D : va_G) (cI cJ : ClassId) (mo : Nat) (nn : Nat) (mm : Nat) (me : Nat) (mj : Nat) (mw : Nat) (mp : Nat) (mu : Nat) (ke : Bool) (bd : Int32) (ml : Nat) (sq : Nat) (mq : Nat) (fi : Int32) (gu : Int32) (le : Int32) (cs : Int32) (ba : Bool) (ov : Int32) (m1 : Nat) (m2 : Nat) (m3 : Nat) (m4 : Nat) (lk : Int32) (sp : Bool) (bs : Int32) (bo : Int32) (m5 : Nat) (m6 : Nat) (m7 : Nat) (su : Int32) (sl : Int32) (m8 : Nat) (lo : Int32) (sh : Int32) (pl : Row) (t v : Int32)  : Met l yX7_plan wsX7_plan rmX7_plan (mPre D cI cJ [.ref mo, .int t, .int v] [(mo, .inr (7, moV (nI nn) (nI mm) me mj mw mp mu (zb (ke = true)) bd ml (nI sq) mq fi gu le cs (zb (ba = true)) ov m1 m2 m3 m4 lk (zb (sp = true)) bs bo m5 m6 m7 su sl m8 lo sh)), (ml, .inl (cI, 9, .inl pl))]) (mQi D (fun (r : Int32) (_ : Unit) => r = ((planR pl t v).1)) (fun (_ : Unit) => [(mo, .inr (7, moV (nI nn) (nI mm) me mj mw mp mu (zb (ke = true)) bd ml (nI sq) mq fi gu le cs (zb (ba = true)) ov m1 m2 m3 m4 lk (zb (sp = true)) bs bo m5 m6 m7 su sl m8 lo sh)), (ml, .inl (cI, 9, .inl ((planR pl t v).2)))]) [(mo, .inr (7, moV (nI nn) (nI mm) me mj mw mp mu (zb (ke = true)) bd ml (nI sq) mq fi gu le cs (zb (ba = true)) ov m1 m2 m3 m4 lk (zb (sp = true)) bs bo m5 m6 m7 su sl m8 lo sh)), (ml, .inl (cI, 9, .inl pl))]) 0 0 (mA [(mo, .inr (7, moV (nI nn) (nI mm) me mj mw mp mu (zb (ke = true)) bd ml (nI sq) mq fi gu le cs (zb (ba = true)) ov m1 m2 m3 m4 lk (zb (sp = true)) bs bo m5 m6 m7 su sl m8 lo sh)), (ml, .inl (cI, 9, .inl pl))]) := by
  refine startM (cc := cX7_plan) (maxL := 4) (ret := (some .int)) (by decide) rfl (Nat.le_of_ble_eq_true rfl) ?_
  intro p e s m args below meth c ls Q A hA hQ hx hb hr hlocks hml hown hts hK hN hP hD hl hin
  have hown : s.vm.findClass RX7 = some m.cls := hown
  have hi_7 : ∀ w ∈ wsX70, w ∈ wsX7_plan := by decide +kernel
  have hf_32 := hts (.fieldLink RX7 32 "FireNetsModel" "plan" "[I") (by decide +kernel)
  have hc_84 := hts (.constantLong RX7 84 (8)) (by decide +kernel)
  have hc_121 := hts (.constantLong RX7 121 (1023)) (by decide +kernel)
  have hS : va_S A s.heap s.heap [] := va_S.rf
  have hl : lv_has ls 4 [(0, .ref mo), (1, .int t), (2, .int v)] := hl
  have hP : va_P D vwCl [(mo, .inr (7, moV (nI nn) (nI mm) me mj mw mp mu (zb (ke = true)) bd ml (nI sq) mq fi gu le cs (zb (ba = true)) ov m1 m2 m3 m4 lk (zb (sp = true)) bs bo m5 m6 m7 su sl m8 lo sh)), (ml, .inl (cI, 9, .inl pl))] s.heap := hP
  refine lv_iload_n hx hb dX7_plan_0 rfl (lv_at hl 1 rfl) ?_
  refine lv_i2l (v := t.toInt64) hx hb dX7_plan_1 rfl ?_
  refine lv_lconst (v := 1) hx hb dX7_plan_2 (by decide) ?_
  refine lv_ldc2 (v := 8) hx hb hown hc_84 dX7_plan_3 ?_
  refine goRI hP hS (va_runS (As := [.long t.toInt64, .long 1, .long 8]) (rest := []) ⟨hx, hb, hml, hown, hts⟩ (kX7_in l D cI cJ t.toInt64 1 8) (va_cwS 3 hts gX7_plan_X7_in rfl rfl rfl kdX7_in.2 ⟨Nat.le_of_ble_eq_true rfl, Nat.le_of_ble_eq_true rfl⟩) (preR hK hN hP [] rfl) rfl rfl hl.1 rfl (lv_room (Nat.le_of_ble_eq_true rfl)) dX7_plan_6 ⟨Nat.zero_le _, Nat.zero_le _⟩) (fun H locs hP hS => ?_)
  refine r_top (x' := zb (1 ≤ t ∧ t ≤ 8)) (zb_iff (in_c (by first | rfl | decide) (by first | rfl | decide))) ?_
  refine r_zeq (tgt := 24) hx hb dX7_plan_9 (by decide) (fun c_9 => ?_) (fun c_9 => ?_)
  · refine lv_sipush (v := (-1002)) hx hb dX7_plan_24 (by decide) ?_
    exact endMI () hx hb hr hlocks hA hQ hS hP dX7_plan_27 (by unfold planR; (first | rw [if_pos c_9] | rw [if_neg c_9] | rw [if_neg (Nat.not_lt.mpr c_9)] | rw [if_neg (Nat.not_le.mpr c_9)] | rw [if_neg (i_nlt c_9)] | rw [if_neg (i_nle c_9)] | rw [if_pos (i_lt c_9)] | rw [if_pos (i_le c_9)])) (by unfold planR; (first | rw [if_pos c_9] | rw [if_neg c_9] | rw [if_neg (Nat.not_lt.mpr c_9)] | rw [if_neg (Nat.not_le.mpr c_9)] | rw [if_neg (i_nlt c_9)] | rw [if_neg (i_nle c_9)] | rw [if_pos (i_lt c_9)] | rw [if_pos (i_le c_9)]))
  · refine lv_iload_n hx hb dX7_plan_12 rfl (lv_at hl 2 rfl) ?_
    refine lv_i2l (v := v.toInt64) hx hb dX7_plan_13 rfl ?_
    refine lv_lconst (v := 0) hx hb dX7_plan_14 (by decide) ?_
    refine lv_ldc2 (v := 1023) hx hb hown hc_121 dX7_plan_15 ?_
    refine goRI hP hS (va_runS (As := [.long v.toInt64, .long 0, .long 1023]) (rest := []) ⟨hx, hb, hml, hown, hts⟩ (kX7_in l D cI cJ v.toInt64 0 1023) (va_cwS 3 hts gX7_plan_X7_in rfl rfl rfl kdX7_in.2 ⟨Nat.le_of_ble_eq_true rfl, Nat.le_of_ble_eq_true rfl⟩) (preR hK hN hP [] rfl) rfl rfl hl.1 rfl (lv_room (Nat.le_of_ble_eq_true rfl)) dX7_plan_18 ⟨Nat.zero_le _, Nat.zero_le _⟩) (fun H locs hP hS => ?_)
    refine r_top (x' := zb (0 ≤ v ∧ v ≤ 1023)) (zb_iff (in_c (by first | rfl | decide) (by first | rfl | decide))) ?_
    refine r_zne (tgt := 28) hx hb dX7_plan_21 (by decide) (fun c_21 => ?_) (fun c_21 => ?_)
    · obtain ⟨tq, htq, rfl⟩ := (tick_ix c_9)
      refine lv_aload_n hx hb dX7_plan_28 rfl (lv_at hl 0 rfl) ?_
      refine va_get (D := D) (ci := 7) (v := .ref ml) (C := RX7) (T := TX7) (N := 34) hx hb hts hi_7 hown hK hP 0 rfl rfl 9 (by decide) hf_32 (fun _ h9 => h9) rfl dX7_plan_29 ?_
      refine lv_iload_n hx hb dX7_plan_32 rfl (lv_at hl 1 rfl) ?_
      refine r_iald hx hb hK hP 1 rfl tq rfl (by omega) (by omega) dX7_plan_33 ?_
      refine lv_istore_n (lv' := [(3, .int (pl tq)), (0, .ref mo), (1, .int (nI tq)), (2, .int v)]) hx hb dX7_plan_34 rfl hl (by decide) rfl (fun ls hl => ?_)
      refine lv_aload_n hx hb dX7_plan_35 rfl (lv_at hl 1 rfl) ?_
      refine va_get (D := D) (ci := 7) (v := .ref ml) (C := RX7) (T := TX7) (N := 34) hx hb hts hi_7 hown hK hP 0 rfl rfl 9 (by decide) hf_32 (fun _ h9 => h9) rfl dX7_plan_36 ?_
      refine lv_iload_n hx hb dX7_plan_39 rfl (lv_at hl 2 rfl) ?_
      refine lv_iload_n hx hb dX7_plan_40 rfl (lv_at hl 3 rfl) ?_
      refine r_iast hx hb hK hP hD hS 1 rfl tq rfl (by omega) (by omega) dX7_plan_41 (fun H locs hP hD hS => ?_)
      have hP : va_P D vwCl [(mo, .inr (7, moV (nI nn) (nI mm) me mj mw mp mu (zb (ke = true)) bd ml (nI sq) mq fi gu le cs (zb (ba = true)) ov m1 m2 m3 m4 lk (zb (sp = true)) bs bo m5 m6 m7 su sl m8 lo sh)), (ml, .inl (cI, 9, .inl (upd pl tq v)))] H := hP
      have hD : va_D A [(mo, .inr (7, moV (nI nn) (nI mm) me mj mw mp mu (zb (ke = true)) bd ml (nI sq) mq fi gu le cs (zb (ba = true)) ov m1 m2 m3 m4 lk (zb (sp = true)) bs bo m5 m6 m7 su sl m8 lo sh)), (ml, .inl (cI, 9, .inl (upd pl tq v)))] := hD
      refine lv_iload_n hx hb dX7_plan_42 rfl (lv_at hl 0 rfl) ?_
      exact endMI () hx hb hr hlocks hA hQ hS hP dX7_plan_43 (by unfold planR; (first | rw [if_pos c_9] | rw [if_neg c_9] | rw [if_neg (Nat.not_lt.mpr c_9)] | rw [if_neg (Nat.not_le.mpr c_9)] | rw [if_neg (i_nlt c_9)] | rw [if_neg (i_nle c_9)] | rw [if_pos (i_lt c_9)] | rw [if_pos (i_le c_9)]); (first | rw [if_pos c_21] | rw [if_neg c_21] | rw [if_neg (Nat.not_lt.mpr c_21)] | rw [if_neg (Nat.not_le.mpr c_21)] | rw [if_neg (i_nlt c_21)] | rw [if_neg (i_nle c_21)] | rw [if_pos (i_lt c_21)] | rw [if_pos (i_le c_21)]); rw [nI_clamp (by omega)]) (by unfold planR; (first | rw [if_pos c_9] | rw [if_neg c_9] | rw [if_neg (Nat.not_lt.mpr c_9)] | rw [if_neg (Nat.not_le.mpr c_9)] | rw [if_neg (i_nlt c_9)] | rw [if_neg (i_nle c_9)] | rw [if_pos (i_lt c_9)] | rw [if_pos (i_le c_9)]); (first | rw [if_pos c_21] | rw [if_neg c_21] | rw [if_neg (Nat.not_lt.mpr c_21)] | rw [if_neg (Nat.not_le.mpr c_21)] | rw [if_neg (i_nlt c_21)] | rw [if_neg (i_nle c_21)] | rw [if_pos (i_lt c_21)] | rw [if_pos (i_le c_21)]); rw [nI_clamp (by omega)])
    · refine lv_sipush (v := (-1002)) hx hb dX7_plan_24 (by decide) ?_
      exact endMI () hx hb hr hlocks hA hQ hS hP dX7_plan_27 (by unfold planR; (first | rw [if_pos c_9] | rw [if_neg c_9] | rw [if_neg (Nat.not_lt.mpr c_9)] | rw [if_neg (Nat.not_le.mpr c_9)] | rw [if_neg (i_nlt c_9)] | rw [if_neg (i_nle c_9)] | rw [if_pos (i_lt c_9)] | rw [if_pos (i_le c_9)]); (first | rw [if_pos c_21] | rw [if_neg c_21] | rw [if_neg (Nat.not_lt.mpr c_21)] | rw [if_neg (Nat.not_le.mpr c_21)] | rw [if_neg (i_nlt c_21)] | rw [if_neg (i_nle c_21)] | rw [if_pos (i_lt c_21)] | rw [if_pos (i_le c_21)])) (by unfold planR; (first | rw [if_pos c_9] | rw [if_neg c_9] | rw [if_neg (Nat.not_lt.mpr c_9)] | rw [if_neg (Nat.not_le.mpr c_9)] | rw [if_neg (i_nlt c_9)] | rw [if_neg (i_nle c_9)] | rw [if_pos (i_lt c_9)] | rw [if_pos (i_le c_9)]); (first | rw [if_pos c_21] | rw [if_neg c_21] | rw [if_neg (Nat.not_lt.mpr c_21)] | rw [if_neg (Nat.not_le.mpr c_21)] | rw [if_neg (i_nlt c_21)] | rw [if_neg (i_nle c_21)] | rw [if_pos (i_lt c_21)] | rw [if_pos (i_le c_21)]))
def rmX7_count : Room := { frames := 1, cells := 0, slots := 0, locals := 23 }
theorem kdX7_count : yX7_count.cls = RX7 ∧ yX7_count.cls ≠ "java/lang/invoke/MethodHandle" ∧ yX7_count.cls ≠ "java/lang/invoke/VarHandle" ∧ (parseMethodDescriptor yX7_count.desc).map (fun d => d.parameters.length) = some 1 := ⟨rfl, by decide +kernel, by decide +kernel, by decide +kernel⟩
set_option maxRecDepth 100000 in
set_option maxHeartbeats 1000000 in
theorem kX7_count (l : Launch) (D : va_G) (cI cJ : ClassId) (mo : Nat) (nn : Nat) (mm : Nat) (me : Nat) (mj : Nat) (mw : Nat) (mp : Nat) (mu : Nat) (ke : Bool) (bd : Int32) (ml : Nat) (sq : Nat) (mq : Nat) (fi : Int32) (gu : Int32) (le : Int32) (cs : Int32) (ba : Bool) (ov : Int32) (m1 : Nat) (m2 : Nat) (m3 : Nat) (m4 : Nat) (lk : Int32) (sp : Bool) (bs : Int32) (bo : Int32) (m5 : Nat) (m6 : Nat) (m7 : Nat) (su : Int32) (sl : Int32) (m8 : Nat) (lo : Int32) (sh : Int32) (wo : Row) (wa : Row) (what : Int32) (hn10 : nn ≤ 10) (hsq : sq ≤ 40) : Met l yX7_count wsX7_count rmX7_count (rPre D cI cJ [.ref mo, .int what] [(mo, .inr (7, moV (nI nn) (nI mm) me mj mw mp mu (zb (ke = true)) bd ml (nI sq) mq fi gu le cs (zb (ba = true)) ov m1 m2 m3 m4 lk (zb (sp = true)) bs bo m5 m6 m7 su sl m8 lo sh)), (mw, .inl (cI, 10, .inl wo)), (mq, .inl (cI, 120, .inl wa))]) (qRI (countR nn mm wo sq wa what)) 0 0 nA := by
  refine startR (cc := cX7_count) (maxL := 6) (ret := (some .int)) (by decide) rfl (Nat.le_of_ble_eq_true rfl) ?_
  intro p e s m args below meth c ls Q hQ hx hb hr hlocks hml hown hts hK hN hP hl hin
  have hown : s.vm.findClass RX7 = some m.cls := hown
  have hi_7 : ∀ w ∈ wsX70, w ∈ wsX7_count := by decide +kernel
  have hf_7 := hts (.fieldLink RX7 7 "FireNetsModel" "n" "I") (by decide +kernel)
  have hf_35 := hts (.fieldLink RX7 35 "FireNetsModel" "wall" "[I") (by decide +kernel)
  have hf_65 := hts (.fieldLink RX7 65 "FireNetsModel" "lines" "I") (by decide +kernel)
  have hf_96 := hts (.fieldLink RX7 96 "FireNetsModel" "squares" "I") (by decide +kernel)
  have hS : va_S nA s.heap s.heap [] := va_S.rf
  have hl : lv_has ls 6 [(0, .ref mo), (1, .int what)] := hl
  have hP : va_P D vwCl [(mo, .inr (7, moV (nI nn) (nI mm) me mj mw mp mu (zb (ke = true)) bd ml (nI sq) mq fi gu le cs (zb (ba = true)) ov m1 m2 m3 m4 lk (zb (sp = true)) bs bo m5 m6 m7 su sl m8 lo sh)), (mw, .inl (cI, 10, .inl wo)), (mq, .inl (cI, 120, .inl wa))] s.heap := hP
  refine lv_iconst (v := 0) hx hb dX7_count_0 (by decide) ?_
  refine lv_istore_n (lv' := [(2, .int 0), (0, .ref mo), (1, .int what)]) hx hb dX7_count_1 rfl hl (by decide) rfl (fun ls hl => ?_)
  refine lv_iconst (v := 1) hx hb dX7_count_2 (by decide) ?_
  refine lv_istore_n (lv' := [(3, .int 1), (2, .int 0), (0, .ref mo), (1, .int what)]) hx hb dX7_count_3 rfl hl (by decide) rfl (fun ls hl => ?_)
  have lp : ∀ (fu : Nat) (t : Nat), (t ≤ 20) → 20 - t < fu → ∀ (ls : Array Slot) (H : Heap) (locs : List Loc), lv_has ls 6 [(0, .ref mo), (1, .int what), (2, .int (needM wa sq t)), (3, .int (nI (t + 1)))] → va_P D vwCl [(mo, .inr (7, moV (nI nn) (nI mm) me mj mw mp mu (zb (ke = true)) bd ml (nI sq) mq fi gu le cs (zb (ba = true)) ov m1 m2 m3 m4 lk (zb (sp = true)) bs bo m5 m6 m7 su sl m8 lo sh)), (mw, .inl (cI, 10, .inl wo)), (mq, .inl (cI, 120, .inl wa))] H → va_S nA s.heap H locs → W p l e rmX7_count s m args below meth c H locs 0 0 Q (F0 m 4 ls []) := by
    intro fu
    induction fu with
    | zero => intro t ht hf; exact absurd hf (Nat.not_lt_zero _)
    | succ fu ih_lp =>
      intro t ht hf ls H locs hl hP hS
      refine lv_iload_n hx hb dX7_count_4 rfl (lv_at hl 3 rfl) ?_
      refine lv_bipush (v := 20) hx hb dX7_count_5 (by decide) ?_
      refine r_icmp_gt (tgt := 75) hx hb (t + 1) 20 dX7_count_7 (by decide) rfl rfl (by omega) (by omega) (fun c_7 => ?_) (fun c_7 => ?_)
      · refine lv_iload_n hx hb dX7_count_75 rfl (lv_at hl 1 rfl) ?_
        by_cases c_76_0 : what = 0
        · refine lv_tableIn (off := 36) (tgt := 112) hx hb dX7_count_76 (by rw [c_76_0]; decide) (by rw [c_76_0]; decide) (by rw [c_76_0]; rfl) (by decide) ?_
          refine lv_aload_n hx hb dX7_count_112 rfl (lv_at hl 0 rfl) ?_
          refine va_get (D := D) (ci := 7) (v := .int (nI nn)) (C := RX7) (T := TX7) (N := 34) hx hb hts hi_7 hown hK hP 0 rfl rfl 0 (by decide) hf_7 (fun _ h9 => h9) rfl dX7_count_113 ?_
          exact endRI hx hb hr hlocks hQ hS dX7_count_116 (by unfold countR; rw [if_pos c_76_0]; first | done | rfl | (rw [show t = 20 by omega]))
        · skip
          by_cases c_76_1 : what = 1
          · refine lv_tableIn (off := 41) (tgt := 117) hx hb dX7_count_76 (by rw [c_76_1]; decide) (by rw [c_76_1]; decide) (by rw [c_76_1]; rfl) (by decide) ?_
            refine lv_aload_n hx hb dX7_count_117 rfl (lv_at hl 0 rfl) ?_
            refine va_get (D := D) (ci := 7) (v := .int (nI mm)) (C := RX7) (T := TX7) (N := 34) hx hb hts hi_7 hown hK hP 0 rfl rfl 1 (by decide) hf_65 (fun _ h9 => h9) rfl dX7_count_118 ?_
            exact endRI hx hb hr hlocks hQ hS dX7_count_121 (by unfold countR; rw [if_neg c_76_0]; rw [if_pos c_76_1]; first | done | rfl | (rw [show t = 20 by omega]))
          · skip
            by_cases c_76_2 : what = 2
            · refine lv_tableIn (off := 46) (tgt := 122) hx hb dX7_count_76 (by rw [c_76_2]; decide) (by rw [c_76_2]; decide) (by rw [c_76_2]; rfl) (by decide) ?_
              refine lv_aload_n hx hb dX7_count_122 rfl (lv_at hl 0 rfl) ?_
              refine lv_aload_n hx hb dX7_count_123 rfl (lv_at hl 0 rfl) ?_
              refine goRI hP hS (va_runV (As := []) (rest := [.ref mo]) ⟨hx, hb, hml, hown, hts⟩ (kX7_all l D cI cJ mo nn mm me mj mw mp mu ke bd ml sq mq fi gu le cs ba ov m1 m2 m3 m4 lk sp bs bo m5 m6 m7 su sl m8 lo sh) (cwV 0 hts gX7_count_X7_all rfl rfl rfl kdX7_all ⟨Nat.le_of_ble_eq_true rfl, Nat.le_of_ble_eq_true rfl⟩) (preRV hK hN hP 0 (ci := 7) rfl rfl rfl [0] rfl) rfl rfl hl.1 rfl (lv_room (Nat.le_of_ble_eq_true rfl)) dX7_count_124 ⟨Nat.zero_le _, Nat.zero_le _⟩) (fun H locs hP hS => ?_)
              refine goRI hP hS (va_runV (As := [.int (allI (nI nn))]) (rest := []) ⟨hx, hb, hml, hown, hts⟩ (kX7_worthOf l D cI cJ mo nn mm me mj mw mp mu ke bd ml sq mq fi gu le cs ba ov m1 m2 m3 m4 lk sp bs bo m5 m6 m7 su sl m8 lo sh wo (allI (nI nn)) (by omega)) (cwV 1 hts gX7_count_X7_worthOf rfl rfl rfl kdX7_worthOf ⟨Nat.le_of_ble_eq_true rfl, Nat.le_of_ble_eq_true rfl⟩) (preRV hK hN hP 0 (ci := 7) rfl rfl rfl [0, 1] rfl) rfl rfl hl.1 rfl (lv_room (Nat.le_of_ble_eq_true rfl)) dX7_count_127 ⟨Nat.zero_le _, Nat.zero_le _⟩) (fun H locs hP hS => ?_)
              exact endRI hx hb hr hlocks hQ hS dX7_count_130 (by unfold countR; rw [if_neg c_76_0]; rw [if_neg c_76_1]; rw [if_pos c_76_2]; first | done | rfl | (rw [show t = 20 by omega]))
            · skip
              by_cases c_76_3 : what = 3
              · refine lv_tableIn (off := 55) (tgt := 131) hx hb dX7_count_76 (by rw [c_76_3]; decide) (by rw [c_76_3]; decide) (by rw [c_76_3]; rfl) (by decide) ?_
                refine lv_aload_n hx hb dX7_count_131 rfl (lv_at hl 0 rfl) ?_
                refine va_get (D := D) (ci := 7) (v := .int (nI sq)) (C := RX7) (T := TX7) (N := 34) hx hb hts hi_7 hown hK hP 0 rfl rfl 10 (by decide) hf_96 (fun _ h9 => h9) rfl dX7_count_132 ?_
                exact endRI hx hb hr hlocks hQ hS dX7_count_135 (by unfold countR; rw [if_neg c_76_0]; rw [if_neg c_76_1]; rw [if_neg c_76_2]; rw [if_pos c_76_3]; first | done | rfl | (rw [show t = 20 by omega]))
              · skip
                by_cases c_76_4 : what = 4
                · refine lv_tableIn (off := 60) (tgt := 136) hx hb dX7_count_76 (by rw [c_76_4]; decide) (by rw [c_76_4]; decide) (by rw [c_76_4]; rfl) (by decide) ?_
                  refine lv_iload_n hx hb dX7_count_136 rfl (lv_at hl 2 rfl) ?_
                  exact endRI hx hb hr hlocks hQ hS dX7_count_137 (by unfold countR; rw [if_neg c_76_0]; rw [if_neg c_76_1]; rw [if_neg c_76_2]; rw [if_neg c_76_3]; rw [if_pos c_76_4]; first | done | rfl | (rw [show t = 20 by omega]))
                · skip
                  have q_76_0 := lv_neT c_76_0 (a := 0) rfl
                  have q_76_1 := lv_neT c_76_1 (a := 1) rfl
                  have q_76_2 := lv_neT c_76_2 (a := 2) rfl
                  have q_76_3 := lv_neT c_76_3 (a := 3) rfl
                  have q_76_4 := lv_neT c_76_4 (a := 4) rfl
                  refine lv_tableOut (tgt := 138) hx hb dX7_count_76 (by omega) (by decide) ?_
                  refine lv_sipush (v := (-1002)) hx hb dX7_count_138 (by decide) ?_
                  exact endRI hx hb hr hlocks hQ hS dX7_count_141 (by unfold countR; rw [if_neg c_76_0]; rw [if_neg c_76_1]; rw [if_neg c_76_2]; rw [if_neg c_76_3]; rw [if_neg c_76_4]; first | done | rfl | (rw [show t = 20 by omega]))
      · refine lv_iconst (v := 0) hx hb dX7_count_10 (by decide) ?_
        refine lv_istore (lv' := [(4, .int 0), (0, .ref mo), (1, .int what), (2, .int (needM wa sq t)), (3, .int (nI (t + 1)))]) hx hb dX7_count_11 hl (by decide) rfl (fun ls hl => ?_)
        refine lv_iconst (v := 0) hx hb dX7_count_13 (by decide) ?_
        refine lv_istore (lv' := [(5, .int 0), (4, .int 0), (0, .ref mo), (1, .int what), (2, .int (needM wa sq t)), (3, .int (nI (t + 1)))]) hx hb dX7_count_14 hl (by decide) rfl (fun ls hl => ?_)
        have inn : ∀ (fu : Nat) (k : Nat), (k ≤ sq) → sq - k < fu → ∀ (ls : Array Slot) (H : Heap) (locs : List Loc), lv_has ls 6 [(0, .ref mo), (1, .int what), (2, .int (needM wa sq t)), (3, .int (nI (t + 1))), (4, .int (cntM wa (nI (t + 1)) k)), (5, .int (nI k))] → va_P D vwCl [(mo, .inr (7, moV (nI nn) (nI mm) me mj mw mp mu (zb (ke = true)) bd ml (nI sq) mq fi gu le cs (zb (ba = true)) ov m1 m2 m3 m4 lk (zb (sp = true)) bs bo m5 m6 m7 su sl m8 lo sh)), (mw, .inl (cI, 10, .inl wo)), (mq, .inl (cI, 120, .inl wa))] H → va_S nA s.heap H locs → W p l e rmX7_count s m args below meth c H locs 0 0 Q (F0 m 16 ls []) := by
          intro fu
          induction fu with
          | zero => intro k hk hf; exact absurd hf (Nat.not_lt_zero _)
          | succ fu ih_inn =>
            intro k hk hf ls H locs hl hP hS
            refine lv_iload hx hb dX7_count_16 (lv_at hl 5 rfl) ?_
            refine lv_aload_n hx hb dX7_count_18 rfl (lv_at hl 0 rfl) ?_
            refine va_get (D := D) (ci := 7) (v := .int (nI sq)) (C := RX7) (T := TX7) (N := 34) hx hb hts hi_7 hown hK hP 0 rfl rfl 10 (by decide) hf_96 (fun _ h9 => h9) rfl dX7_count_19 ?_
            refine r_icmp_ge (tgt := 56) hx hb k sq dX7_count_22 (by decide) rfl rfl (by omega) (by omega) (fun c_22 => ?_) (fun c_22 => ?_)
            · refine lv_iload hx hb dX7_count_56 (lv_at hl 4 rfl) ?_
              refine lv_iload_n hx hb dX7_count_58 rfl (lv_at hl 2 rfl) ?_
              refine lv_icmp_le (tgt := 67) hx hb dX7_count_59 (by decide) (fun c_59 => ?_) (fun c_59 => ?_)
              · refine lv_iload_n hx hb dX7_count_67 rfl (lv_at hl 2 rfl) ?_
                refine lv_istore_n (lv' := [(2, .int (needM wa sq t)), (0, .ref mo), (1, .int what), (3, .int (nI (t + 1))), (4, .int (cntM wa (nI (t + 1)) k)), (5, .int (nI k))]) hx hb dX7_count_68 rfl hl (by decide) rfl (fun ls hl => ?_)
                refine r_iinc (lv' := [(3, .int (nI ((t + 1) + 1))), (2, .int (needM wa sq t)), (0, .ref mo), (1, .int what), (4, .int (cntM wa (nI (t + 1)) k)), (5, .int (nI k))]) hx hb 3 (t + 1) dX7_count_69 hl rfl (by decide) rfl (fun ls hl => ?_)
                refine lv_goto (tgt := 4) hx hb dX7_count_72 (by decide) ?_
                exact ih_lp (t + 1) (by omega) (by omega) ls _ _ (by have ek : k = sq := (by omega); have c9 := c_59; rw [ek] at hl c9; rw [needM, if_neg (i_nlt c9)]; exact lv_sub hl [2, 3, 1, 0] rfl) hP hS
              · refine lv_iload hx hb dX7_count_62 (lv_at hl 4 rfl) ?_
                refine lv_goto (tgt := 68) hx hb dX7_count_64 (by decide) ?_
                refine lv_istore_n (lv' := [(2, .int (cntM wa (nI (t + 1)) k)), (0, .ref mo), (1, .int what), (3, .int (nI (t + 1))), (4, .int (cntM wa (nI (t + 1)) k)), (5, .int (nI k))]) hx hb dX7_count_68 rfl hl (by decide) rfl (fun ls hl => ?_)
                refine r_iinc (lv' := [(3, .int (nI ((t + 1) + 1))), (2, .int (cntM wa (nI (t + 1)) k)), (0, .ref mo), (1, .int what), (4, .int (cntM wa (nI (t + 1)) k)), (5, .int (nI k))]) hx hb 3 (t + 1) dX7_count_69 hl rfl (by decide) rfl (fun ls hl => ?_)
                refine lv_goto (tgt := 4) hx hb dX7_count_72 (by decide) ?_
                exact ih_lp (t + 1) (by omega) (by omega) ls _ _ (by have ek : k = sq := (by omega); have c9 := c_59; rw [ek] at hl c9; rw [needM, if_pos (i_le c9)]; exact lv_sub hl [2, 3, 1, 0] rfl) hP hS
            · refine lv_iload hx hb dX7_count_25 (lv_at hl 4 rfl) ?_
              refine lv_aload_n hx hb dX7_count_27 rfl (lv_at hl 0 rfl) ?_
              refine va_get (D := D) (ci := 7) (v := .ref mq) (C := RX7) (T := TX7) (N := 34) hx hb hts hi_7 hown hK hP 0 rfl rfl 11 (by decide) hf_35 (fun _ h9 => h9) rfl dX7_count_28 ?_
              refine lv_iconst (v := 3) hx hb dX7_count_31 (by decide) ?_
              refine lv_iload hx hb dX7_count_32 (lv_at hl 5 rfl) ?_
              refine lv_imul hx hb dX7_count_34 ?_
              refine r_top (x' := nI (3 * k)) (pk_mul 3 k) ?_
              refine lv_iconst (v := 2) hx hb dX7_count_35 (by decide) ?_
              refine lv_iadd hx hb dX7_count_36 ?_
              refine r_top (x' := nI ((3 * k) + 2)) (nI_add (3 * k) 2) ?_
              refine r_iald hx hb hK hP 2 rfl ((3 * k) + 2) rfl (by omega) (by omega) dX7_count_37 ?_
              refine lv_iload_n hx hb dX7_count_38 rfl (lv_at hl 3 rfl) ?_
              refine lv_icmp_ne (tgt := 46) hx hb dX7_count_39 (by decide) (fun c_39 => ?_) (fun c_39 => ?_)
              · refine lv_iconst (v := 0) hx hb dX7_count_46 (by decide) ?_
                refine lv_iadd hx hb dX7_count_47 ?_
                refine lv_istore (lv' := [(4, .int ((cntM wa (nI (t + 1)) k) + 0)), (0, .ref mo), (1, .int what), (2, .int (needM wa sq t)), (3, .int (nI (t + 1))), (5, .int (nI k))]) hx hb dX7_count_48 hl (by decide) rfl (fun ls hl => ?_)
                refine r_iinc (lv' := [(5, .int (nI (k + 1))), (4, .int ((cntM wa (nI (t + 1)) k) + 0)), (0, .ref mo), (1, .int what), (2, .int (needM wa sq t)), (3, .int (nI (t + 1)))]) hx hb 5 k dX7_count_50 hl rfl (by decide) rfl (fun ls hl => ?_)
                refine lv_goto (tgt := 16) hx hb dX7_count_53 (by decide) ?_
                exact ih_inn (k + 1) (by omega) (by omega) ls _ _ (by rw [cntM, if_neg c_39]; exact lv_sub hl [2, 3, 4, 5, 1, 0] rfl) hP hS
              · refine lv_iconst (v := 1) hx hb dX7_count_42 (by decide) ?_
                refine lv_goto (tgt := 47) hx hb dX7_count_43 (by decide) ?_
                refine lv_iadd hx hb dX7_count_47 ?_
                refine lv_istore (lv' := [(4, .int ((cntM wa (nI (t + 1)) k) + 1)), (0, .ref mo), (1, .int what), (2, .int (needM wa sq t)), (3, .int (nI (t + 1))), (5, .int (nI k))]) hx hb dX7_count_48 hl (by decide) rfl (fun ls hl => ?_)
                refine r_iinc (lv' := [(5, .int (nI (k + 1))), (4, .int ((cntM wa (nI (t + 1)) k) + 1)), (0, .ref mo), (1, .int what), (2, .int (needM wa sq t)), (3, .int (nI (t + 1)))]) hx hb 5 k dX7_count_50 hl rfl (by decide) rfl (fun ls hl => ?_)
                refine lv_goto (tgt := 16) hx hb dX7_count_53 (by decide) ?_
                exact ih_inn (k + 1) (by omega) (by omega) ls _ _ (by rw [cntM, if_pos c_39]; exact lv_sub hl [2, 3, 4, 5, 1, 0] rfl) hP hS
        exact inn _ 0 (by omega) (Nat.lt_succ_self _) ls _ _ (lv_sub hl [2, 3, 4, 5, 1, 0] rfl) hP hS
  exact lp _ 0 (by omega) (Nat.lt_succ_self _) ls _ _ (lv_sub hl [2, 3, 1, 0] rfl) hP hS
def rmX7_light : Room := { frames := 0, cells := 0, slots := 0, locals := 0 }
theorem kdX7_light : yX7_light.cls = RX7 ∧ yX7_light.cls ≠ "java/lang/invoke/MethodHandle" ∧ yX7_light.cls ≠ "java/lang/invoke/VarHandle" ∧ (parseMethodDescriptor yX7_light.desc).map (fun d => d.parameters.length) = some 1 := ⟨rfl, by decide +kernel, by decide +kernel, by decide +kernel⟩
set_option maxRecDepth 100000 in
set_option maxHeartbeats 1000000 in
theorem kX7_light (l : Launch) (D : va_G) (cI cJ : ClassId) (mo : Nat) (nn : Nat) (mm : Nat) (me : Nat) (mj : Nat) (mw : Nat) (mp : Nat) (mu : Nat) (ke : Bool) (bd : Int32) (ml : Nat) (sq : Nat) (mq : Nat) (fi : Int32) (gu : Int32) (le : Int32) (cs : Int32) (ba : Bool) (ov : Int32) (m1 : Nat) (m2 : Nat) (m3 : Nat) (m4 : Nat) (lk : Int32) (sp : Bool) (bs : Int32) (bo : Int32) (m5 : Nat) (m6 : Nat) (m7 : Nat) (su : Int32) (sl : Int32) (m8 : Nat) (lo : Int32) (sh : Int32) (v : Int32)  : Met l yX7_light wsX7_light rmX7_light (mPre D cI cJ [.ref mo, .int v] [(mo, .inr (7, moV (nI nn) (nI mm) me mj mw mp mu (zb (ke = true)) bd ml (nI sq) mq fi gu le cs (zb (ba = true)) ov m1 m2 m3 m4 lk (zb (sp = true)) bs bo m5 m6 m7 su sl m8 lo sh))]) (mQv D (fun (_ : Unit) => True) (fun (_ : Unit) => [(mo, .inr (7, moV (nI nn) (nI mm) me mj mw mp mu (zb (ke = true)) bd ml (nI sq) mq v 0 0 0 (zb (ba = true)) ov m1 m2 m3 m4 lk (zb (sp = true)) bs bo m5 m6 m7 su sl m8 lo sh))]) [(mo, .inr (7, moV (nI nn) (nI mm) me mj mw mp mu (zb (ke = true)) bd ml (nI sq) mq fi gu le cs (zb (ba = true)) ov m1 m2 m3 m4 lk (zb (sp = true)) bs bo m5 m6 m7 su sl m8 lo sh))]) 0 0 (mA [(mo, .inr (7, moV (nI nn) (nI mm) me mj mw mp mu (zb (ke = true)) bd ml (nI sq) mq fi gu le cs (zb (ba = true)) ov m1 m2 m3 m4 lk (zb (sp = true)) bs bo m5 m6 m7 su sl m8 lo sh))]) := by
  refine startM (cc := cX7_light) (maxL := 2) (ret := none) (by decide) rfl (Nat.le_of_ble_eq_true rfl) ?_
  intro p e s m args below meth c ls Q A hA hQ hx hb hr hlocks hml hown hts hK hN hP hD hl hin
  have hown : s.vm.findClass RX7 = some m.cls := hown
  have hi_7 : ∀ w ∈ wsX70, w ∈ wsX7_light := by decide +kernel
  have hf_103 := hts (.fieldLink RX7 103 "FireNetsModel" "fire" "I") (by decide +kernel)
  have hf_106 := hts (.fieldLink RX7 106 "FireNetsModel" "guards" "I") (by decide +kernel)
  have hf_109 := hts (.fieldLink RX7 109 "FireNetsModel" "left" "I") (by decide +kernel)
  have hf_112 := hts (.fieldLink RX7 112 "FireNetsModel" "cost" "I") (by decide +kernel)
  have hS : va_S A s.heap s.heap [] := va_S.rf
  have hl : lv_has ls 2 [(0, .ref mo), (1, .int v)] := hl
  have hP : va_P D vwCl [(mo, .inr (7, moV (nI nn) (nI mm) me mj mw mp mu (zb (ke = true)) bd ml (nI sq) mq fi gu le cs (zb (ba = true)) ov m1 m2 m3 m4 lk (zb (sp = true)) bs bo m5 m6 m7 su sl m8 lo sh))] s.heap := hP
  refine lv_aload_n hx hb dX7_light_0 rfl (lv_at hl 0 rfl) ?_
  refine lv_iload_n hx hb dX7_light_1 rfl (lv_at hl 1 rfl) ?_
  refine va_put (D := D) (ci := 7) (v := .int v) (ty := .int) (C := RX7) (T := TX7) (N := 34) hx hb hts hi_7 tyX7 tyX7_ok nmX7 hown hK hP hD hS 0 rfl rfl 12 (by decide) hf_103 (fun _ h9 => h9) rfl (by decide +kernel) rfl rfl (Nat.le_of_ble_eq_true rfl) dX7_light_2 (fun H locs hP hD hS => ?_)
  have hP : va_P D vwCl [(mo, .inr (7, moV (nI nn) (nI mm) me mj mw mp mu (zb (ke = true)) bd ml (nI sq) mq v gu le cs (zb (ba = true)) ov m1 m2 m3 m4 lk (zb (sp = true)) bs bo m5 m6 m7 su sl m8 lo sh))] H := hP
  have hD : va_D A [(mo, .inr (7, moV (nI nn) (nI mm) me mj mw mp mu (zb (ke = true)) bd ml (nI sq) mq v gu le cs (zb (ba = true)) ov m1 m2 m3 m4 lk (zb (sp = true)) bs bo m5 m6 m7 su sl m8 lo sh))] := hD
  refine lv_aload_n hx hb dX7_light_5 rfl (lv_at hl 0 rfl) ?_
  refine lv_iconst (v := 0) hx hb dX7_light_6 (by decide) ?_
  refine va_put (D := D) (ci := 7) (v := .int 0) (ty := .int) (C := RX7) (T := TX7) (N := 34) hx hb hts hi_7 tyX7 tyX7_ok nmX7 hown hK hP hD hS 0 rfl rfl 13 (by decide) hf_106 (fun _ h9 => h9) rfl (by decide +kernel) rfl rfl (Nat.le_of_ble_eq_true rfl) dX7_light_7 (fun H locs hP hD hS => ?_)
  have hP : va_P D vwCl [(mo, .inr (7, moV (nI nn) (nI mm) me mj mw mp mu (zb (ke = true)) bd ml (nI sq) mq v 0 le cs (zb (ba = true)) ov m1 m2 m3 m4 lk (zb (sp = true)) bs bo m5 m6 m7 su sl m8 lo sh))] H := hP
  have hD : va_D A [(mo, .inr (7, moV (nI nn) (nI mm) me mj mw mp mu (zb (ke = true)) bd ml (nI sq) mq v 0 le cs (zb (ba = true)) ov m1 m2 m3 m4 lk (zb (sp = true)) bs bo m5 m6 m7 su sl m8 lo sh))] := hD
  refine lv_aload_n hx hb dX7_light_10 rfl (lv_at hl 0 rfl) ?_
  refine lv_iconst (v := 0) hx hb dX7_light_11 (by decide) ?_
  refine va_put (D := D) (ci := 7) (v := .int 0) (ty := .int) (C := RX7) (T := TX7) (N := 34) hx hb hts hi_7 tyX7 tyX7_ok nmX7 hown hK hP hD hS 0 rfl rfl 14 (by decide) hf_109 (fun _ h9 => h9) rfl (by decide +kernel) rfl rfl (Nat.le_of_ble_eq_true rfl) dX7_light_12 (fun H locs hP hD hS => ?_)
  have hP : va_P D vwCl [(mo, .inr (7, moV (nI nn) (nI mm) me mj mw mp mu (zb (ke = true)) bd ml (nI sq) mq v 0 0 cs (zb (ba = true)) ov m1 m2 m3 m4 lk (zb (sp = true)) bs bo m5 m6 m7 su sl m8 lo sh))] H := hP
  have hD : va_D A [(mo, .inr (7, moV (nI nn) (nI mm) me mj mw mp mu (zb (ke = true)) bd ml (nI sq) mq v 0 0 cs (zb (ba = true)) ov m1 m2 m3 m4 lk (zb (sp = true)) bs bo m5 m6 m7 su sl m8 lo sh))] := hD
  refine lv_aload_n hx hb dX7_light_15 rfl (lv_at hl 0 rfl) ?_
  refine lv_iconst (v := 0) hx hb dX7_light_16 (by decide) ?_
  refine va_put (D := D) (ci := 7) (v := .int 0) (ty := .int) (C := RX7) (T := TX7) (N := 34) hx hb hts hi_7 tyX7 tyX7_ok nmX7 hown hK hP hD hS 0 rfl rfl 15 (by decide) hf_112 (fun _ h9 => h9) rfl (by decide +kernel) rfl rfl (Nat.le_of_ble_eq_true rfl) dX7_light_17 (fun H locs hP hD hS => ?_)
  have hP : va_P D vwCl [(mo, .inr (7, moV (nI nn) (nI mm) me mj mw mp mu (zb (ke = true)) bd ml (nI sq) mq v 0 0 0 (zb (ba = true)) ov m1 m2 m3 m4 lk (zb (sp = true)) bs bo m5 m6 m7 su sl m8 lo sh))] H := hP
  have hD : va_D A [(mo, .inr (7, moV (nI nn) (nI mm) me mj mw mp mu (zb (ke = true)) bd ml (nI sq) mq v 0 0 0 (zb (ba = true)) ov m1 m2 m3 m4 lk (zb (sp = true)) bs bo m5 m6 m7 su sl m8 lo sh))] := hD
  exact endMV () hx hb hr hlocks hA hQ hS hP dX7_light_20 rfl trivial
def rmX7_fill : Room := { frames := 0, cells := 0, slots := 0, locals := 0 }
theorem kdX7_fill : yX7_fill.cls = RX7 ∧ yX7_fill.cls ≠ "java/lang/invoke/MethodHandle" ∧ yX7_fill.cls ≠ "java/lang/invoke/VarHandle" ∧ (parseMethodDescriptor yX7_fill.desc).map (fun d => d.parameters.length) = some 1 := ⟨rfl, by decide +kernel, by decide +kernel, by decide +kernel⟩
set_option maxRecDepth 100000 in
set_option maxHeartbeats 1000000 in
theorem kX7_fill (l : Launch) (D : va_G) (cI cJ : ClassId) (mo : Nat) (nn : Nat) (mm : Nat) (me : Nat) (mj : Nat) (mw : Nat) (mp : Nat) (mu : Nat) (ke : Bool) (bd : Int32) (ml : Nat) (sq : Nat) (mq : Nat) (fi : Int32) (gu : Int32) (le : Int32) (cs : Int32) (ba : Bool) (ov : Int32) (m1 : Nat) (m2 : Nat) (m3 : Nat) (m4 : Nat) (lk : Int32) (sp : Bool) (bs : Int32) (bo : Int32) (m5 : Nat) (m6 : Nat) (m7 : Nat) (su : Int32) (sl : Int32) (m8 : Nat) (lo : Int32) (sh : Int32) (ow : Row) (t : Nat) (ht : t < 2 ^ 31) : Met l yX7_fill wsX7_fill rmX7_fill (mPre D cI cJ [.ref mo, .int (nI t)] [(mo, .inr (7, moV (nI nn) (nI mm) me mj mw mp mu (zb (ke = true)) bd ml (nI sq) mq fi gu le cs (zb (ba = true)) ov m1 m2 m3 m4 lk (zb (sp = true)) bs bo m5 m6 m7 su sl m8 lo sh)), (mu, .inl (cI, 9, .inl ow))]) (mQv D (fun (_ : Unit) => True) (fun (_ : Unit) => [(mo, .inr (7, moV (nI nn) (nI mm) me mj mw mp mu (zb (ke = true)) bd ml (nI sq) mq fi gu (fillM ow ke t le) cs (zb (ba = true)) ov m1 m2 m3 m4 lk (zb (sp = true)) bs bo m5 m6 m7 su sl m8 lo sh)), (mu, .inl (cI, 9, .inl ow))]) [(mo, .inr (7, moV (nI nn) (nI mm) me mj mw mp mu (zb (ke = true)) bd ml (nI sq) mq fi gu le cs (zb (ba = true)) ov m1 m2 m3 m4 lk (zb (sp = true)) bs bo m5 m6 m7 su sl m8 lo sh)), (mu, .inl (cI, 9, .inl ow))]) 0 0 (mA [(mo, .inr (7, moV (nI nn) (nI mm) me mj mw mp mu (zb (ke = true)) bd ml (nI sq) mq fi gu le cs (zb (ba = true)) ov m1 m2 m3 m4 lk (zb (sp = true)) bs bo m5 m6 m7 su sl m8 lo sh)), (mu, .inl (cI, 9, .inl ow))]) := by
  refine startM (cc := cX7_fill) (maxL := 2) (ret := none) (by decide) rfl (Nat.le_of_ble_eq_true rfl) ?_
  intro p e s m args below meth c ls Q A hA hQ hx hb hr hlocks hml hown hts hK hN hP hD hl hin
  have hown : s.vm.findClass RX7 = some m.cls := hown
  have hi_7 : ∀ w ∈ wsX70, w ∈ wsX7_fill := by decide +kernel
  have hf_26 := hts (.fieldLink RX7 26 "FireNetsModel" "purse" "[I") (by decide +kernel)
  have hf_92 := hts (.fieldLink RX7 92 "FireNetsModel" "keeps" "Z") (by decide +kernel)
  have hf_109 := hts (.fieldLink RX7 109 "FireNetsModel" "left" "I") (by decide +kernel)
  have hS : va_S A s.heap s.heap [] := va_S.rf
  have hl : lv_has ls 2 [(0, .ref mo), (1, .int (nI t))] := hl
  have hP : va_P D vwCl [(mo, .inr (7, moV (nI nn) (nI mm) me mj mw mp mu (zb (ke = true)) bd ml (nI sq) mq fi gu le cs (zb (ba = true)) ov m1 m2 m3 m4 lk (zb (sp = true)) bs bo m5 m6 m7 su sl m8 lo sh)), (mu, .inl (cI, 9, .inl ow))] s.heap := hP
  refine lv_aload_n hx hb dX7_fill_0 rfl (lv_at hl 0 rfl) ?_
  refine lv_aload_n hx hb dX7_fill_1 rfl (lv_at hl 0 rfl) ?_
  refine va_get (D := D) (ci := 7) (v := .int (zb (ke = true))) (C := RX7) (T := TX7) (N := 34) hx hb hts hi_7 hown hK hP 0 rfl rfl 7 (by decide) hf_92 (fun _ h9 => h9) rfl dX7_fill_2 ?_
  refine r_zeq (tgt := 15) hx hb dX7_fill_5 (by decide) (fun c_5 => ?_) (fun c_5 => ?_)
  · refine lv_iconst (v := 0) hx hb dX7_fill_15 (by decide) ?_
    refine lv_aload_n hx hb dX7_fill_16 rfl (lv_at hl 0 rfl) ?_
    refine va_get (D := D) (ci := 7) (v := .ref mu) (C := RX7) (T := TX7) (N := 34) hx hb hts hi_7 hown hK hP 0 rfl rfl 6 (by decide) hf_26 (fun _ h9 => h9) rfl dX7_fill_17 ?_
    refine lv_iload_n hx hb dX7_fill_20 rfl (lv_at hl 1 rfl) ?_
    refine lv_bipush (v := 8) hx hb dX7_fill_21 (by decide) ?_
    refine r_icmp_ge (tgt := 30) hx hb t 8 dX7_fill_23 (by decide) rfl rfl (by omega) (by omega) (fun c_23 => ?_) (fun c_23 => ?_)
    · refine lv_bipush (v := 8) hx hb dX7_fill_30 (by decide) ?_
      refine r_iald hx hb hK hP 1 rfl 8 rfl (by omega) (by omega) dX7_fill_32 ?_
      refine lv_iadd hx hb dX7_fill_33 ?_
      refine va_put (D := D) (ci := 7) (v := .int (0 + (ow 8))) (ty := .int) (C := RX7) (T := TX7) (N := 34) hx hb hts hi_7 tyX7 tyX7_ok nmX7 hown hK hP hD hS 0 rfl rfl 14 (by decide) hf_109 (fun _ h9 => h9) rfl (by decide +kernel) rfl rfl (Nat.le_of_ble_eq_true rfl) dX7_fill_34 (fun H locs hP hD hS => ?_)
      have hP : va_P D vwCl [(mo, .inr (7, moV (nI nn) (nI mm) me mj mw mp mu (zb (ke = true)) bd ml (nI sq) mq fi gu (0 + (ow 8)) cs (zb (ba = true)) ov m1 m2 m3 m4 lk (zb (sp = true)) bs bo m5 m6 m7 su sl m8 lo sh)), (mu, .inl (cI, 9, .inl ow))] H := hP
      have hD : va_D A [(mo, .inr (7, moV (nI nn) (nI mm) me mj mw mp mu (zb (ke = true)) bd ml (nI sq) mq fi gu (0 + (ow 8)) cs (zb (ba = true)) ov m1 m2 m3 m4 lk (zb (sp = true)) bs bo m5 m6 m7 su sl m8 lo sh)), (mu, .inl (cI, 9, .inl ow))] := hD
      exact endMV () hx hb hr hlocks hA hQ hS hP dX7_fill_37 (by unfold fillM; (first | rw [if_pos c_5] | rw [if_neg c_5] | rw [if_neg (Nat.not_lt.mpr c_5)] | rw [if_neg (Nat.not_le.mpr c_5)] | rw [if_neg (i_nlt c_5)] | rw [if_neg (i_nle c_5)] | rw [if_pos (i_lt c_5)] | rw [if_pos (i_le c_5)]); (first | rw [if_pos c_23] | rw [if_neg c_23] | rw [if_neg (Nat.not_lt.mpr c_23)] | rw [if_neg (Nat.not_le.mpr c_23)] | rw [if_neg (i_nlt c_23)] | rw [if_neg (i_nle c_23)] | rw [if_pos (i_lt c_23)] | rw [if_pos (i_le c_23)])) trivial
    · refine lv_iload_n hx hb dX7_fill_26 rfl (lv_at hl 1 rfl) ?_
      refine lv_goto (tgt := 32) hx hb dX7_fill_27 (by decide) ?_
      refine r_iald hx hb hK hP 1 rfl t rfl (by omega) (by omega) dX7_fill_32 ?_
      refine lv_iadd hx hb dX7_fill_33 ?_
      refine va_put (D := D) (ci := 7) (v := .int (0 + (ow t))) (ty := .int) (C := RX7) (T := TX7) (N := 34) hx hb hts hi_7 tyX7 tyX7_ok nmX7 hown hK hP hD hS 0 rfl rfl 14 (by decide) hf_109 (fun _ h9 => h9) rfl (by decide +kernel) rfl rfl (Nat.le_of_ble_eq_true rfl) dX7_fill_34 (fun H locs hP hD hS => ?_)
      have hP : va_P D vwCl [(mo, .inr (7, moV (nI nn) (nI mm) me mj mw mp mu (zb (ke = true)) bd ml (nI sq) mq fi gu (0 + (ow t)) cs (zb (ba = true)) ov m1 m2 m3 m4 lk (zb (sp = true)) bs bo m5 m6 m7 su sl m8 lo sh)), (mu, .inl (cI, 9, .inl ow))] H := hP
      have hD : va_D A [(mo, .inr (7, moV (nI nn) (nI mm) me mj mw mp mu (zb (ke = true)) bd ml (nI sq) mq fi gu (0 + (ow t)) cs (zb (ba = true)) ov m1 m2 m3 m4 lk (zb (sp = true)) bs bo m5 m6 m7 su sl m8 lo sh)), (mu, .inl (cI, 9, .inl ow))] := hD
      exact endMV () hx hb hr hlocks hA hQ hS hP dX7_fill_37 (by unfold fillM; (first | rw [if_pos c_5] | rw [if_neg c_5] | rw [if_neg (Nat.not_lt.mpr c_5)] | rw [if_neg (Nat.not_le.mpr c_5)] | rw [if_neg (i_nlt c_5)] | rw [if_neg (i_nle c_5)] | rw [if_pos (i_lt c_5)] | rw [if_pos (i_le c_5)]); (first | rw [if_pos c_23] | rw [if_neg c_23] | rw [if_neg (Nat.not_lt.mpr c_23)] | rw [if_neg (Nat.not_le.mpr c_23)] | rw [if_neg (i_nlt c_23)] | rw [if_neg (i_nle c_23)] | rw [if_pos (i_lt c_23)] | rw [if_pos (i_le c_23)])) trivial
  · refine lv_aload_n hx hb dX7_fill_8 rfl (lv_at hl 0 rfl) ?_
    refine va_get (D := D) (ci := 7) (v := .int le) (C := RX7) (T := TX7) (N := 34) hx hb hts hi_7 hown hK hP 0 rfl rfl 14 (by decide) hf_109 (fun _ h9 => h9) rfl dX7_fill_9 ?_
    refine lv_goto (tgt := 16) hx hb dX7_fill_12 (by decide) ?_
    refine lv_aload_n hx hb dX7_fill_16 rfl (lv_at hl 0 rfl) ?_
    refine va_get (D := D) (ci := 7) (v := .ref mu) (C := RX7) (T := TX7) (N := 34) hx hb hts hi_7 hown hK hP 0 rfl rfl 6 (by decide) hf_26 (fun _ h9 => h9) rfl dX7_fill_17 ?_
    refine lv_iload_n hx hb dX7_fill_20 rfl (lv_at hl 1 rfl) ?_
    refine lv_bipush (v := 8) hx hb dX7_fill_21 (by decide) ?_
    refine r_icmp_ge (tgt := 30) hx hb t 8 dX7_fill_23 (by decide) rfl rfl (by omega) (by omega) (fun c_23 => ?_) (fun c_23 => ?_)
    · refine lv_bipush (v := 8) hx hb dX7_fill_30 (by decide) ?_
      refine r_iald hx hb hK hP 1 rfl 8 rfl (by omega) (by omega) dX7_fill_32 ?_
      refine lv_iadd hx hb dX7_fill_33 ?_
      refine va_put (D := D) (ci := 7) (v := .int (le + (ow 8))) (ty := .int) (C := RX7) (T := TX7) (N := 34) hx hb hts hi_7 tyX7 tyX7_ok nmX7 hown hK hP hD hS 0 rfl rfl 14 (by decide) hf_109 (fun _ h9 => h9) rfl (by decide +kernel) rfl rfl (Nat.le_of_ble_eq_true rfl) dX7_fill_34 (fun H locs hP hD hS => ?_)
      have hP : va_P D vwCl [(mo, .inr (7, moV (nI nn) (nI mm) me mj mw mp mu (zb (ke = true)) bd ml (nI sq) mq fi gu (le + (ow 8)) cs (zb (ba = true)) ov m1 m2 m3 m4 lk (zb (sp = true)) bs bo m5 m6 m7 su sl m8 lo sh)), (mu, .inl (cI, 9, .inl ow))] H := hP
      have hD : va_D A [(mo, .inr (7, moV (nI nn) (nI mm) me mj mw mp mu (zb (ke = true)) bd ml (nI sq) mq fi gu (le + (ow 8)) cs (zb (ba = true)) ov m1 m2 m3 m4 lk (zb (sp = true)) bs bo m5 m6 m7 su sl m8 lo sh)), (mu, .inl (cI, 9, .inl ow))] := hD
      exact endMV () hx hb hr hlocks hA hQ hS hP dX7_fill_37 (by unfold fillM; (first | rw [if_pos c_5] | rw [if_neg c_5] | rw [if_neg (Nat.not_lt.mpr c_5)] | rw [if_neg (Nat.not_le.mpr c_5)] | rw [if_neg (i_nlt c_5)] | rw [if_neg (i_nle c_5)] | rw [if_pos (i_lt c_5)] | rw [if_pos (i_le c_5)]); (first | rw [if_pos c_23] | rw [if_neg c_23] | rw [if_neg (Nat.not_lt.mpr c_23)] | rw [if_neg (Nat.not_le.mpr c_23)] | rw [if_neg (i_nlt c_23)] | rw [if_neg (i_nle c_23)] | rw [if_pos (i_lt c_23)] | rw [if_pos (i_le c_23)])) trivial
    · refine lv_iload_n hx hb dX7_fill_26 rfl (lv_at hl 1 rfl) ?_
      refine lv_goto (tgt := 32) hx hb dX7_fill_27 (by decide) ?_
      refine r_iald hx hb hK hP 1 rfl t rfl (by omega) (by omega) dX7_fill_32 ?_
      refine lv_iadd hx hb dX7_fill_33 ?_
      refine va_put (D := D) (ci := 7) (v := .int (le + (ow t))) (ty := .int) (C := RX7) (T := TX7) (N := 34) hx hb hts hi_7 tyX7 tyX7_ok nmX7 hown hK hP hD hS 0 rfl rfl 14 (by decide) hf_109 (fun _ h9 => h9) rfl (by decide +kernel) rfl rfl (Nat.le_of_ble_eq_true rfl) dX7_fill_34 (fun H locs hP hD hS => ?_)
      have hP : va_P D vwCl [(mo, .inr (7, moV (nI nn) (nI mm) me mj mw mp mu (zb (ke = true)) bd ml (nI sq) mq fi gu (le + (ow t)) cs (zb (ba = true)) ov m1 m2 m3 m4 lk (zb (sp = true)) bs bo m5 m6 m7 su sl m8 lo sh)), (mu, .inl (cI, 9, .inl ow))] H := hP
      have hD : va_D A [(mo, .inr (7, moV (nI nn) (nI mm) me mj mw mp mu (zb (ke = true)) bd ml (nI sq) mq fi gu (le + (ow t)) cs (zb (ba = true)) ov m1 m2 m3 m4 lk (zb (sp = true)) bs bo m5 m6 m7 su sl m8 lo sh)), (mu, .inl (cI, 9, .inl ow))] := hD
      exact endMV () hx hb hr hlocks hA hQ hS hP dX7_fill_37 (by unfold fillM; (first | rw [if_pos c_5] | rw [if_neg c_5] | rw [if_neg (Nat.not_lt.mpr c_5)] | rw [if_neg (Nat.not_le.mpr c_5)] | rw [if_neg (i_nlt c_5)] | rw [if_neg (i_nle c_5)] | rw [if_pos (i_lt c_5)] | rw [if_pos (i_le c_5)]); (first | rw [if_pos c_23] | rw [if_neg c_23] | rw [if_neg (Nat.not_lt.mpr c_23)] | rw [if_neg (Nat.not_le.mpr c_23)] | rw [if_neg (i_nlt c_23)] | rw [if_neg (i_nle c_23)] | rw [if_pos (i_lt c_23)] | rw [if_pos (i_le c_23)])) trivial
def rmX7_isLawful : Room := { frames := 1, cells := 0, slots := 0, locals := 23 }
theorem kdX7_isLawful : yX7_isLawful.cls = RX7 ∧ yX7_isLawful.cls ≠ "java/lang/invoke/MethodHandle" ∧ yX7_isLawful.cls ≠ "java/lang/invoke/VarHandle" ∧ (parseMethodDescriptor yX7_isLawful.desc).map (fun d => d.parameters.length) = some 1 := ⟨rfl, by decide +kernel, by decide +kernel, by decide +kernel⟩
set_option maxRecDepth 100000 in
set_option maxHeartbeats 1000000 in
theorem kX7_isLawful (l : Launch) (D : va_G) (cI cJ : ClassId) (mo : Nat) (nn : Nat) (mm : Nat) (me : Nat) (mj : Nat) (mw : Nat) (mp : Nat) (mu : Nat) (ke : Bool) (bd : Int32) (ml : Nat) (sq : Nat) (mq : Nat) (fi : Int32) (gu : Int32) (le : Int32) (cs : Int32) (ba : Bool) (ov : Int32) (m1 : Nat) (m2 : Nat) (m3 : Nat) (m4 : Nat) (lk : Int32) (sp : Bool) (bs : Int32) (bo : Int32) (m5 : Nat) (m6 : Nat) (m7 : Nat) (su : Int32) (sl : Int32) (m8 : Nat) (lo : Int32) (sh : Int32) (pr : Row) (v : Int32) (hn10 : nn ≤ 10) : Met l yX7_isLawful wsX7_isLawful rmX7_isLawful (rPre D cI cJ [.ref mo, .int v] [(mo, .inr (7, moV (nI nn) (nI mm) me mj mw mp mu (zb (ke = true)) bd ml (nI sq) mq fi gu le cs (zb (ba = true)) ov m1 m2 m3 m4 lk (zb (sp = true)) bs bo m5 m6 m7 su sl m8 lo sh)), (mp, .inl (cI, 10, .inl pr))]) (qRI (zb (v ≤ allI (nI nn) ∧ v &&& (fi ||| gu) = 0 ∧ sumM pr v nn ≤ le))) 0 0 nA := by
  refine startR (cc := cX7_isLawful) (maxL := 2) (ret := (some .boolean)) (by decide) rfl (Nat.le_of_ble_eq_true rfl) ?_
  intro p e s m args below meth c ls Q hQ hx hb hr hlocks hml hown hts hK hN hP hl hin
  have hown : s.vm.findClass RX7 = some m.cls := hown
  have hi_7 : ∀ w ∈ wsX70, w ∈ wsX7_isLawful := by decide +kernel
  have hf_103 := hts (.fieldLink RX7 103 "FireNetsModel" "fire" "I") (by decide +kernel)
  have hf_106 := hts (.fieldLink RX7 106 "FireNetsModel" "guards" "I") (by decide +kernel)
  have hf_109 := hts (.fieldLink RX7 109 "FireNetsModel" "left" "I") (by decide +kernel)
  have hS : va_S nA s.heap s.heap [] := va_S.rf
  have hl : lv_has ls 2 [(0, .ref mo), (1, .int v)] := hl
  have hP : va_P D vwCl [(mo, .inr (7, moV (nI nn) (nI mm) me mj mw mp mu (zb (ke = true)) bd ml (nI sq) mq fi gu le cs (zb (ba = true)) ov m1 m2 m3 m4 lk (zb (sp = true)) bs bo m5 m6 m7 su sl m8 lo sh)), (mp, .inl (cI, 10, .inl pr))] s.heap := hP
  refine lv_iload_n hx hb dX7_isLawful_0 rfl (lv_at hl 1 rfl) ?_
  refine lv_aload_n hx hb dX7_isLawful_1 rfl (lv_at hl 0 rfl) ?_
  refine goRI hP hS (va_runV (As := []) (rest := [.int v]) ⟨hx, hb, hml, hown, hts⟩ (kX7_all l D cI cJ mo nn mm me mj mw mp mu ke bd ml sq mq fi gu le cs ba ov m1 m2 m3 m4 lk sp bs bo m5 m6 m7 su sl m8 lo sh) (cwV 0 hts gX7_isLawful_X7_all rfl rfl rfl kdX7_all ⟨Nat.le_of_ble_eq_true rfl, Nat.le_of_ble_eq_true rfl⟩) (preRV hK hN hP 0 (ci := 7) rfl rfl rfl [0] rfl) rfl rfl hl.1 rfl (lv_room (Nat.le_of_ble_eq_true rfl)) dX7_isLawful_2 ⟨Nat.zero_le _, Nat.zero_le _⟩) (fun H locs hP hS => ?_)
  refine lv_icmp_gt (tgt := 38) hx hb dX7_isLawful_5 (by decide) (fun c_5 => ?_) (fun c_5 => ?_)
  · refine lv_iconst (v := 0) hx hb dX7_isLawful_38 (by decide) ?_
    exact endRZ hx hb hr hlocks hQ hS dX7_isLawful_39 rfl (zb_f (fun h => i_nle c_5 h.1))
  · refine lv_iload_n hx hb dX7_isLawful_8 rfl (lv_at hl 1 rfl) ?_
    refine lv_aload_n hx hb dX7_isLawful_9 rfl (lv_at hl 0 rfl) ?_
    refine va_get (D := D) (ci := 7) (v := .int fi) (C := RX7) (T := TX7) (N := 34) hx hb hts hi_7 hown hK hP 0 rfl rfl 12 (by decide) hf_103 (fun _ h9 => h9) rfl dX7_isLawful_10 ?_
    refine lv_aload_n hx hb dX7_isLawful_13 rfl (lv_at hl 0 rfl) ?_
    refine va_get (D := D) (ci := 7) (v := .int gu) (C := RX7) (T := TX7) (N := 34) hx hb hts hi_7 hown hK hP 0 rfl rfl 13 (by decide) hf_106 (fun _ h9 => h9) rfl dX7_isLawful_14 ?_
    refine lv_ior hx hb dX7_isLawful_17 ?_
    refine lv_iand hx hb dX7_isLawful_18 ?_
    refine lv_if_ne (tgt := 38) hx hb dX7_isLawful_19 (by decide) (fun c_19 => ?_) (fun c_19 => ?_)
    · refine lv_iconst (v := 0) hx hb dX7_isLawful_38 (by decide) ?_
      exact endRZ hx hb hr hlocks hQ hS dX7_isLawful_39 rfl (zb_f (fun h => c_19 h.2.1))
    · refine lv_aload_n hx hb dX7_isLawful_22 rfl (lv_at hl 0 rfl) ?_
      refine lv_iload_n hx hb dX7_isLawful_23 rfl (lv_at hl 1 rfl) ?_
      refine goRI hP hS (va_runV (As := [.int v]) (rest := []) ⟨hx, hb, hml, hown, hts⟩ (kX7_priceOf l D cI cJ mo nn mm me mj mw mp mu ke bd ml sq mq fi gu le cs ba ov m1 m2 m3 m4 lk sp bs bo m5 m6 m7 su sl m8 lo sh pr v (by omega)) (cwV 1 hts gX7_isLawful_X7_priceOf rfl rfl rfl kdX7_priceOf ⟨Nat.le_of_ble_eq_true rfl, Nat.le_of_ble_eq_true rfl⟩) (preRV hK hN hP 0 (ci := 7) rfl rfl rfl [0, 1] rfl) rfl rfl hl.1 rfl (lv_room (Nat.le_of_ble_eq_true rfl)) dX7_isLawful_24 ⟨Nat.zero_le _, Nat.zero_le _⟩) (fun H locs hP hS => ?_)
      refine lv_aload_n hx hb dX7_isLawful_27 rfl (lv_at hl 0 rfl) ?_
      refine va_get (D := D) (ci := 7) (v := .int le) (C := RX7) (T := TX7) (N := 34) hx hb hts hi_7 hown hK hP 0 rfl rfl 14 (by decide) hf_109 (fun _ h9 => h9) rfl dX7_isLawful_28 ?_
      refine lv_icmp_gt (tgt := 38) hx hb dX7_isLawful_31 (by decide) (fun c_31 => ?_) (fun c_31 => ?_)
      · refine lv_iconst (v := 0) hx hb dX7_isLawful_38 (by decide) ?_
        exact endRZ hx hb hr hlocks hQ hS dX7_isLawful_39 rfl (zb_f (fun h => i_nle c_31 h.2.2))
      · refine lv_iconst (v := 1) hx hb dX7_isLawful_34 (by decide) ?_
        refine lv_goto (tgt := 39) hx hb dX7_isLawful_35 (by decide) ?_
        exact endRZ hx hb hr hlocks hQ hS dX7_isLawful_39 rfl (zb_t ⟨i_lt c_5, c_19, i_lt c_31⟩)
def rmX7_guard : Room := { frames := 1, cells := 0, slots := 0, locals := 23 }
theorem kdX7_guard : yX7_guard.cls = RX7 ∧ yX7_guard.cls ≠ "java/lang/invoke/MethodHandle" ∧ yX7_guard.cls ≠ "java/lang/invoke/VarHandle" ∧ (parseMethodDescriptor yX7_guard.desc).map (fun d => d.parameters.length) = some 1 := ⟨rfl, by decide +kernel, by decide +kernel, by decide +kernel⟩
set_option maxRecDepth 100000 in
set_option maxHeartbeats 1000000 in
theorem kX7_guard (l : Launch) (D : va_G) (cI cJ : ClassId) (mo : Nat) (nn : Nat) (mm : Nat) (me : Nat) (mj : Nat) (mw : Nat) (mp : Nat) (mu : Nat) (ke : Bool) (bd : Int32) (ml : Nat) (sq : Nat) (mq : Nat) (fi : Int32) (gu : Int32) (le : Int32) (cs : Int32) (ba : Bool) (ov : Int32) (m1 : Nat) (m2 : Nat) (m3 : Nat) (m4 : Nat) (lk : Int32) (sp : Bool) (bs : Int32) (bo : Int32) (m5 : Nat) (m6 : Nat) (m7 : Nat) (su : Int32) (sl : Int32) (m8 : Nat) (lo : Int32) (sh : Int32) (pr : Row) (v : Int32) (hn10 : nn ≤ 10) : Met l yX7_guard wsX7_guard rmX7_guard (mPre D cI cJ [.ref mo, .int v] [(mo, .inr (7, moV (nI nn) (nI mm) me mj mw mp mu (zb (ke = true)) bd ml (nI sq) mq fi gu le cs (zb (ba = true)) ov m1 m2 m3 m4 lk (zb (sp = true)) bs bo m5 m6 m7 su sl m8 lo sh)), (mp, .inl (cI, 10, .inl pr))]) (mQv D (fun (_ : Unit) => True) (fun (_ : Unit) => [(mo, .inr (7, moV (nI nn) (nI mm) me mj mw mp mu (zb (ke = true)) bd ml (nI sq) mq fi (gu ||| v) (le - sumM pr v nn) (cs + sumM pr v nn) (zb (ba = true)) ov m1 m2 m3 m4 lk (zb (sp = true)) bs bo m5 m6 m7 su sl m8 lo sh)), (mp, .inl (cI, 10, .inl pr))]) [(mo, .inr (7, moV (nI nn) (nI mm) me mj mw mp mu (zb (ke = true)) bd ml (nI sq) mq fi gu le cs (zb (ba = true)) ov m1 m2 m3 m4 lk (zb (sp = true)) bs bo m5 m6 m7 su sl m8 lo sh)), (mp, .inl (cI, 10, .inl pr))]) 0 0 (mA [(mo, .inr (7, moV (nI nn) (nI mm) me mj mw mp mu (zb (ke = true)) bd ml (nI sq) mq fi gu le cs (zb (ba = true)) ov m1 m2 m3 m4 lk (zb (sp = true)) bs bo m5 m6 m7 su sl m8 lo sh)), (mp, .inl (cI, 10, .inl pr))]) := by
  refine startM (cc := cX7_guard) (maxL := 2) (ret := none) (by decide) rfl (Nat.le_of_ble_eq_true rfl) ?_
  intro p e s m args below meth c ls Q A hA hQ hx hb hr hlocks hml hown hts hK hN hP hD hl hin
  have hown : s.vm.findClass RX7 = some m.cls := hown
  have hi_7 : ∀ w ∈ wsX70, w ∈ wsX7_guard := by decide +kernel
  have hf_106 := hts (.fieldLink RX7 106 "FireNetsModel" "guards" "I") (by decide +kernel)
  have hf_109 := hts (.fieldLink RX7 109 "FireNetsModel" "left" "I") (by decide +kernel)
  have hf_112 := hts (.fieldLink RX7 112 "FireNetsModel" "cost" "I") (by decide +kernel)
  have hS : va_S A s.heap s.heap [] := va_S.rf
  have hl : lv_has ls 2 [(0, .ref mo), (1, .int v)] := hl
  have hP : va_P D vwCl [(mo, .inr (7, moV (nI nn) (nI mm) me mj mw mp mu (zb (ke = true)) bd ml (nI sq) mq fi gu le cs (zb (ba = true)) ov m1 m2 m3 m4 lk (zb (sp = true)) bs bo m5 m6 m7 su sl m8 lo sh)), (mp, .inl (cI, 10, .inl pr))] s.heap := hP
  refine lv_aload_n hx hb dX7_guard_0 rfl (lv_at hl 0 rfl) ?_
  refine lv_dup hx hb dX7_guard_1 rfl ?_
  refine va_get (D := D) (ci := 7) (v := .int gu) (C := RX7) (T := TX7) (N := 34) hx hb hts hi_7 hown hK hP 0 rfl rfl 13 (by decide) hf_106 (fun _ h9 => h9) rfl dX7_guard_2 ?_
  refine lv_iload_n hx hb dX7_guard_5 rfl (lv_at hl 1 rfl) ?_
  refine lv_ior hx hb dX7_guard_6 ?_
  refine va_put (D := D) (ci := 7) (v := .int (gu ||| v)) (ty := .int) (C := RX7) (T := TX7) (N := 34) hx hb hts hi_7 tyX7 tyX7_ok nmX7 hown hK hP hD hS 0 rfl rfl 13 (by decide) hf_106 (fun _ h9 => h9) rfl (by decide +kernel) rfl rfl (Nat.le_of_ble_eq_true rfl) dX7_guard_7 (fun H locs hP hD hS => ?_)
  have hP : va_P D vwCl [(mo, .inr (7, moV (nI nn) (nI mm) me mj mw mp mu (zb (ke = true)) bd ml (nI sq) mq fi (gu ||| v) le cs (zb (ba = true)) ov m1 m2 m3 m4 lk (zb (sp = true)) bs bo m5 m6 m7 su sl m8 lo sh)), (mp, .inl (cI, 10, .inl pr))] H := hP
  have hD : va_D A [(mo, .inr (7, moV (nI nn) (nI mm) me mj mw mp mu (zb (ke = true)) bd ml (nI sq) mq fi (gu ||| v) le cs (zb (ba = true)) ov m1 m2 m3 m4 lk (zb (sp = true)) bs bo m5 m6 m7 su sl m8 lo sh)), (mp, .inl (cI, 10, .inl pr))] := hD
  refine lv_aload_n hx hb dX7_guard_10 rfl (lv_at hl 0 rfl) ?_
  refine lv_dup hx hb dX7_guard_11 rfl ?_
  refine va_get (D := D) (ci := 7) (v := .int le) (C := RX7) (T := TX7) (N := 34) hx hb hts hi_7 hown hK hP 0 rfl rfl 14 (by decide) hf_109 (fun _ h9 => h9) rfl dX7_guard_12 ?_
  refine lv_aload_n hx hb dX7_guard_15 rfl (lv_at hl 0 rfl) ?_
  refine lv_iload_n hx hb dX7_guard_16 rfl (lv_at hl 1 rfl) ?_
  refine goRI hP hS (va_runV (As := [.int v]) (rest := [.int le, .ref mo]) ⟨hx, hb, hml, hown, hts⟩ (kX7_priceOf l D cI cJ mo nn mm me mj mw mp mu ke bd ml sq mq fi (gu ||| v) le cs ba ov m1 m2 m3 m4 lk sp bs bo m5 m6 m7 su sl m8 lo sh pr v (by omega)) (cwV 1 hts gX7_guard_X7_priceOf rfl rfl rfl kdX7_priceOf ⟨Nat.le_of_ble_eq_true rfl, Nat.le_of_ble_eq_true rfl⟩) (preRV hK hN hP 0 (ci := 7) rfl rfl rfl [0, 1] rfl) rfl rfl hl.1 rfl (lv_room (Nat.le_of_ble_eq_true rfl)) dX7_guard_17 ⟨Nat.zero_le _, Nat.zero_le _⟩) (fun H locs hP hS => ?_)
  refine lv_isub hx hb dX7_guard_20 ?_
  refine va_put (D := D) (ci := 7) (v := .int (le - (sumM pr v nn))) (ty := .int) (C := RX7) (T := TX7) (N := 34) hx hb hts hi_7 tyX7 tyX7_ok nmX7 hown hK hP hD hS 0 rfl rfl 14 (by decide) hf_109 (fun _ h9 => h9) rfl (by decide +kernel) rfl rfl (Nat.le_of_ble_eq_true rfl) dX7_guard_21 (fun H locs hP hD hS => ?_)
  have hP : va_P D vwCl [(mo, .inr (7, moV (nI nn) (nI mm) me mj mw mp mu (zb (ke = true)) bd ml (nI sq) mq fi (gu ||| v) (le - (sumM pr v nn)) cs (zb (ba = true)) ov m1 m2 m3 m4 lk (zb (sp = true)) bs bo m5 m6 m7 su sl m8 lo sh)), (mp, .inl (cI, 10, .inl pr))] H := hP
  have hD : va_D A [(mo, .inr (7, moV (nI nn) (nI mm) me mj mw mp mu (zb (ke = true)) bd ml (nI sq) mq fi (gu ||| v) (le - (sumM pr v nn)) cs (zb (ba = true)) ov m1 m2 m3 m4 lk (zb (sp = true)) bs bo m5 m6 m7 su sl m8 lo sh)), (mp, .inl (cI, 10, .inl pr))] := hD
  refine lv_aload_n hx hb dX7_guard_24 rfl (lv_at hl 0 rfl) ?_
  refine lv_dup hx hb dX7_guard_25 rfl ?_
  refine va_get (D := D) (ci := 7) (v := .int cs) (C := RX7) (T := TX7) (N := 34) hx hb hts hi_7 hown hK hP 0 rfl rfl 15 (by decide) hf_112 (fun _ h9 => h9) rfl dX7_guard_26 ?_
  refine lv_aload_n hx hb dX7_guard_29 rfl (lv_at hl 0 rfl) ?_
  refine lv_iload_n hx hb dX7_guard_30 rfl (lv_at hl 1 rfl) ?_
  refine goRI hP hS (va_runV (As := [.int v]) (rest := [.int cs, .ref mo]) ⟨hx, hb, hml, hown, hts⟩ (kX7_priceOf l D cI cJ mo nn mm me mj mw mp mu ke bd ml sq mq fi (gu ||| v) (le - (sumM pr v nn)) cs ba ov m1 m2 m3 m4 lk sp bs bo m5 m6 m7 su sl m8 lo sh pr v (by omega)) (cwV 1 hts gX7_guard_X7_priceOf rfl rfl rfl kdX7_priceOf ⟨Nat.le_of_ble_eq_true rfl, Nat.le_of_ble_eq_true rfl⟩) (preRV hK hN hP 0 (ci := 7) rfl rfl rfl [0, 1] rfl) rfl rfl hl.1 rfl (lv_room (Nat.le_of_ble_eq_true rfl)) dX7_guard_31 ⟨Nat.zero_le _, Nat.zero_le _⟩) (fun H locs hP hS => ?_)
  refine lv_iadd hx hb dX7_guard_34 ?_
  refine va_put (D := D) (ci := 7) (v := .int (cs + (sumM pr v nn))) (ty := .int) (C := RX7) (T := TX7) (N := 34) hx hb hts hi_7 tyX7 tyX7_ok nmX7 hown hK hP hD hS 0 rfl rfl 15 (by decide) hf_112 (fun _ h9 => h9) rfl (by decide +kernel) rfl rfl (Nat.le_of_ble_eq_true rfl) dX7_guard_35 (fun H locs hP hD hS => ?_)
  have hP : va_P D vwCl [(mo, .inr (7, moV (nI nn) (nI mm) me mj mw mp mu (zb (ke = true)) bd ml (nI sq) mq fi (gu ||| v) (le - (sumM pr v nn)) (cs + (sumM pr v nn)) (zb (ba = true)) ov m1 m2 m3 m4 lk (zb (sp = true)) bs bo m5 m6 m7 su sl m8 lo sh)), (mp, .inl (cI, 10, .inl pr))] H := hP
  have hD : va_D A [(mo, .inr (7, moV (nI nn) (nI mm) me mj mw mp mu (zb (ke = true)) bd ml (nI sq) mq fi (gu ||| v) (le - (sumM pr v nn)) (cs + (sumM pr v nn)) (zb (ba = true)) ov m1 m2 m3 m4 lk (zb (sp = true)) bs bo m5 m6 m7 su sl m8 lo sh)), (mp, .inl (cI, 10, .inl pr))] := hD
  exact endMV () hx hb hr hlocks hA hQ hS hP dX7_guard_38 rfl trivial
def rmX7_near : Room := { frames := 0, cells := 0, slots := 0, locals := 0 }
theorem kdX7_near : yX7_near.cls = RX7 ∧ yX7_near.cls ≠ "java/lang/invoke/MethodHandle" ∧ yX7_near.cls ≠ "java/lang/invoke/VarHandle" ∧ (parseMethodDescriptor yX7_near.desc).map (fun d => d.parameters.length) = some 0 := ⟨rfl, by decide +kernel, by decide +kernel, by decide +kernel⟩
set_option maxRecDepth 100000 in
set_option maxHeartbeats 1000000 in
theorem kX7_near (l : Launch) (D : va_G) (cI cJ : ClassId) (mo : Nat) (nn : Nat) (mm : Nat) (me : Nat) (mj : Nat) (mw : Nat) (mp : Nat) (mu : Nat) (ke : Bool) (bd : Int32) (ml : Nat) (sq : Nat) (mq : Nat) (fi : Int32) (gu : Int32) (le : Int32) (cs : Int32) (ba : Bool) (ov : Int32) (m1 : Nat) (m2 : Nat) (m3 : Nat) (m4 : Nat) (lk : Int32) (sp : Bool) (bs : Int32) (bo : Int32) (m5 : Nat) (m6 : Nat) (m7 : Nat) (su : Int32) (sl : Int32) (m8 : Nat) (lo : Int32) (sh : Int32) (ne : Row) (hn10 : nn ≤ 10) : Met l yX7_near wsX7_near rmX7_near (rPre D cI cJ [.ref mo] [(mo, .inr (7, moV (nI nn) (nI mm) me mj mw mp mu (zb (ke = true)) bd ml (nI sq) mq fi gu le cs (zb (ba = true)) ov m1 m2 m3 m4 lk (zb (sp = true)) bs bo m5 m6 m7 su sl m8 lo sh)), (mj, .inl (cI, 10, .inl ne))]) (qRI (nearM nn ne fi gu)) 0 0 nA := by
  refine startR (cc := cX7_near) (maxL := 3) (ret := (some .int)) (by decide) rfl (Nat.le_of_ble_eq_true rfl) ?_
  intro p e s m args below meth c ls Q hQ hx hb hr hlocks hml hown hts hK hN hP hl hin
  have hown : s.vm.findClass RX7 = some m.cls := hown
  have hi_7 : ∀ w ∈ wsX70, w ∈ wsX7_near := by decide +kernel
  have hf_7 := hts (.fieldLink RX7 7 "FireNetsModel" "n" "I") (by decide +kernel)
  have hf_17 := hts (.fieldLink RX7 17 "FireNetsModel" "joined" "[I") (by decide +kernel)
  have hf_103 := hts (.fieldLink RX7 103 "FireNetsModel" "fire" "I") (by decide +kernel)
  have hf_106 := hts (.fieldLink RX7 106 "FireNetsModel" "guards" "I") (by decide +kernel)
  have hS : va_S nA s.heap s.heap [] := va_S.rf
  have hl : lv_has ls 3 [(0, .ref mo)] := hl
  have hP : va_P D vwCl [(mo, .inr (7, moV (nI nn) (nI mm) me mj mw mp mu (zb (ke = true)) bd ml (nI sq) mq fi gu le cs (zb (ba = true)) ov m1 m2 m3 m4 lk (zb (sp = true)) bs bo m5 m6 m7 su sl m8 lo sh)), (mj, .inl (cI, 10, .inl ne))] s.heap := hP
  refine lv_iconst (v := 0) hx hb dX7_near_0 (by decide) ?_
  refine lv_istore_n (lv' := [(1, .int 0), (0, .ref mo)]) hx hb dX7_near_1 rfl hl (by decide) rfl (fun ls hl => ?_)
  refine lv_iconst (v := 0) hx hb dX7_near_2 (by decide) ?_
  refine lv_istore_n (lv' := [(2, .int 0), (1, .int 0), (0, .ref mo)]) hx hb dX7_near_3 rfl hl (by decide) rfl (fun ls hl => ?_)
  have lp : ∀ (fu : Nat) (k : Nat), (k ≤ nn) → nn - k < fu → ∀ (ls : Array Slot) (H : Heap) (locs : List Loc), lv_has ls 3 [(0, .ref mo), (1, .int (nearA ne fi k)), (2, .int (nI k))] → va_P D vwCl [(mo, .inr (7, moV (nI nn) (nI mm) me mj mw mp mu (zb (ke = true)) bd ml (nI sq) mq fi gu le cs (zb (ba = true)) ov m1 m2 m3 m4 lk (zb (sp = true)) bs bo m5 m6 m7 su sl m8 lo sh)), (mj, .inl (cI, 10, .inl ne))] H → va_S nA s.heap H locs → W p l e rmX7_near s m args below meth c H locs 0 0 Q (F0 m 4 ls []) := by
    intro fu
    induction fu with
    | zero => intro k hk hf; exact absurd hf (Nat.not_lt_zero _)
    | succ fu ih_lp =>
      intro k hk hf ls H locs hl hP hS
      refine lv_iload_n hx hb dX7_near_4 rfl (lv_at hl 2 rfl) ?_
      refine lv_aload_n hx hb dX7_near_5 rfl (lv_at hl 0 rfl) ?_
      refine va_get (D := D) (ci := 7) (v := .int (nI nn)) (C := RX7) (T := TX7) (N := 34) hx hb hts hi_7 hown hK hP 0 rfl rfl 0 (by decide) hf_7 (fun _ h9 => h9) rfl dX7_near_6 ?_
      refine r_icmp_ge (tgt := 43) hx hb k nn dX7_near_9 (by decide) rfl rfl (by omega) (by omega) (fun c_9 => ?_) (fun c_9 => ?_)
      · refine lv_iload_n hx hb dX7_near_43 rfl (lv_at hl 1 rfl) ?_
        refine lv_aload_n hx hb dX7_near_44 rfl (lv_at hl 0 rfl) ?_
        refine va_get (D := D) (ci := 7) (v := .int fi) (C := RX7) (T := TX7) (N := 34) hx hb hts hi_7 hown hK hP 0 rfl rfl 12 (by decide) hf_103 (fun _ h9 => h9) rfl dX7_near_45 ?_
        refine lv_iconst (v := (-1)) hx hb dX7_near_48 (by decide) ?_
        refine lv_ixor hx hb dX7_near_49 ?_
        refine lv_iand hx hb dX7_near_50 ?_
        refine lv_aload_n hx hb dX7_near_51 rfl (lv_at hl 0 rfl) ?_
        refine va_get (D := D) (ci := 7) (v := .int gu) (C := RX7) (T := TX7) (N := 34) hx hb hts hi_7 hown hK hP 0 rfl rfl 13 (by decide) hf_106 (fun _ h9 => h9) rfl dX7_near_52 ?_
        refine lv_iconst (v := (-1)) hx hb dX7_near_55 (by decide) ?_
        refine lv_ixor hx hb dX7_near_56 ?_
        refine lv_iand hx hb dX7_near_57 ?_
        exact endRI hx hb hr hlocks hQ hS dX7_near_58 (by rw [nearM, show nn = k by omega])
      · refine lv_iload_n hx hb dX7_near_12 rfl (lv_at hl 1 rfl) ?_
        refine lv_aload_n hx hb dX7_near_13 rfl (lv_at hl 0 rfl) ?_
        refine va_get (D := D) (ci := 7) (v := .int fi) (C := RX7) (T := TX7) (N := 34) hx hb hts hi_7 hown hK hP 0 rfl rfl 12 (by decide) hf_103 (fun _ h9 => h9) rfl dX7_near_14 ?_
        refine lv_iload_n hx hb dX7_near_17 rfl (lv_at hl 2 rfl) ?_
        refine lv_ishr hx hb dX7_near_18 ?_
        refine lv_iconst (v := 1) hx hb dX7_near_19 (by decide) ?_
        refine lv_iand hx hb dX7_near_20 ?_
        refine lv_iconst (v := 1) hx hb dX7_near_21 (by decide) ?_
        refine lv_icmp_ne (tgt := 34) hx hb dX7_near_22 (by decide) (fun c_22 => ?_) (fun c_22 => ?_)
        · refine lv_iconst (v := 0) hx hb dX7_near_34 (by decide) ?_
          refine lv_ior hx hb dX7_near_35 ?_
          refine lv_istore_n (lv' := [(1, .int ((nearA ne fi k) ||| 0)), (0, .ref mo), (2, .int (nI k))]) hx hb dX7_near_36 rfl hl (by decide) rfl (fun ls hl => ?_)
          refine r_iinc (lv' := [(2, .int (nI (k + 1))), (1, .int ((nearA ne fi k) ||| 0)), (0, .ref mo)]) hx hb 2 k dX7_near_37 hl rfl (by decide) rfl (fun ls hl => ?_)
          refine lv_goto (tgt := 4) hx hb dX7_near_40 (by decide) ?_
          exact ih_lp (k + 1) (by omega) (by omega) ls _ _ (by rw [nearA, if_neg (show ¬ bt fi (nI k) = 1 from c_22)]; exact lv_sub hl [2, 1, 0] rfl) hP hS
        · refine lv_aload_n hx hb dX7_near_25 rfl (lv_at hl 0 rfl) ?_
          refine va_get (D := D) (ci := 7) (v := .ref mj) (C := RX7) (T := TX7) (N := 34) hx hb hts hi_7 hown hK hP 0 rfl rfl 3 (by decide) hf_17 (fun _ h9 => h9) rfl dX7_near_26 ?_
          refine lv_iload_n hx hb dX7_near_29 rfl (lv_at hl 2 rfl) ?_
          refine r_iald hx hb hK hP 1 rfl k rfl (by omega) (by omega) dX7_near_30 ?_
          refine lv_goto (tgt := 35) hx hb dX7_near_31 (by decide) ?_
          refine lv_ior hx hb dX7_near_35 ?_
          refine lv_istore_n (lv' := [(1, .int ((nearA ne fi k) ||| (ne k))), (0, .ref mo), (2, .int (nI k))]) hx hb dX7_near_36 rfl hl (by decide) rfl (fun ls hl => ?_)
          refine r_iinc (lv' := [(2, .int (nI (k + 1))), (1, .int ((nearA ne fi k) ||| (ne k))), (0, .ref mo)]) hx hb 2 k dX7_near_37 hl rfl (by decide) rfl (fun ls hl => ?_)
          refine lv_goto (tgt := 4) hx hb dX7_near_40 (by decide) ?_
          exact ih_lp (k + 1) (by omega) (by omega) ls _ _ (by rw [nearA, if_pos (show bt fi (nI k) = 1 from c_22)]; exact lv_sub hl [2, 1, 0] rfl) hP hS
  exact lp _ 0 (by omega) (Nat.lt_succ_self _) ls _ _ (lv_sub hl [2, 1, 0] rfl) hP hS
def rmX7_spreads : Room := { frames := 1, cells := 0, slots := 0, locals := 22 }
theorem kdX7_spreads : yX7_spreads.cls = RX7 ∧ yX7_spreads.cls ≠ "java/lang/invoke/MethodHandle" ∧ yX7_spreads.cls ≠ "java/lang/invoke/VarHandle" ∧ (parseMethodDescriptor yX7_spreads.desc).map (fun d => d.parameters.length) = some 0 := ⟨rfl, by decide +kernel, by decide +kernel, by decide +kernel⟩
set_option maxRecDepth 100000 in
set_option maxHeartbeats 1000000 in
theorem kX7_spreads (l : Launch) (D : va_G) (cI cJ : ClassId) (mo : Nat) (nn : Nat) (mm : Nat) (me : Nat) (mj : Nat) (mw : Nat) (mp : Nat) (mu : Nat) (ke : Bool) (bd : Int32) (ml : Nat) (sq : Nat) (mq : Nat) (fi : Int32) (gu : Int32) (le : Int32) (cs : Int32) (ba : Bool) (ov : Int32) (m1 : Nat) (m2 : Nat) (m3 : Nat) (m4 : Nat) (lk : Int32) (sp : Bool) (bs : Int32) (bo : Int32) (m5 : Nat) (m6 : Nat) (m7 : Nat) (su : Int32) (sl : Int32) (m8 : Nat) (lo : Int32) (sh : Int32) (ne : Row) (hn10 : nn ≤ 10) : Met l yX7_spreads wsX7_spreads rmX7_spreads (mPre D cI cJ [.ref mo] [(mo, .inr (7, moV (nI nn) (nI mm) me mj mw mp mu (zb (ke = true)) bd ml (nI sq) mq fi gu le cs (zb (ba = true)) ov m1 m2 m3 m4 lk (zb (sp = true)) bs bo m5 m6 m7 su sl m8 lo sh)), (mj, .inl (cI, 10, .inl ne))]) (mQi D (fun (r : Int32) (_ : Unit) => r = (zb (¬ nearM nn ne fi gu = 0))) (fun (_ : Unit) => [(mo, .inr (7, moV (nI nn) (nI mm) me mj mw mp mu (zb (ke = true)) bd ml (nI sq) mq (fi ||| nearM nn ne fi gu) gu le cs (zb (ba = true)) ov m1 m2 m3 m4 lk (zb (sp = true)) bs bo m5 m6 m7 su sl m8 lo sh)), (mj, .inl (cI, 10, .inl ne))]) [(mo, .inr (7, moV (nI nn) (nI mm) me mj mw mp mu (zb (ke = true)) bd ml (nI sq) mq fi gu le cs (zb (ba = true)) ov m1 m2 m3 m4 lk (zb (sp = true)) bs bo m5 m6 m7 su sl m8 lo sh)), (mj, .inl (cI, 10, .inl ne))]) 0 0 (mA [(mo, .inr (7, moV (nI nn) (nI mm) me mj mw mp mu (zb (ke = true)) bd ml (nI sq) mq fi gu le cs (zb (ba = true)) ov m1 m2 m3 m4 lk (zb (sp = true)) bs bo m5 m6 m7 su sl m8 lo sh)), (mj, .inl (cI, 10, .inl ne))]) := by
  refine startM (cc := cX7_spreads) (maxL := 2) (ret := (some .boolean)) (by decide) rfl (Nat.le_of_ble_eq_true rfl) ?_
  intro p e s m args below meth c ls Q A hA hQ hx hb hr hlocks hml hown hts hK hN hP hD hl hin
  have hown : s.vm.findClass RX7 = some m.cls := hown
  have hi_7 : ∀ w ∈ wsX70, w ∈ wsX7_spreads := by decide +kernel
  have hf_103 := hts (.fieldLink RX7 103 "FireNetsModel" "fire" "I") (by decide +kernel)
  have hS : va_S A s.heap s.heap [] := va_S.rf
  have hl : lv_has ls 2 [(0, .ref mo)] := hl
  have hP : va_P D vwCl [(mo, .inr (7, moV (nI nn) (nI mm) me mj mw mp mu (zb (ke = true)) bd ml (nI sq) mq fi gu le cs (zb (ba = true)) ov m1 m2 m3 m4 lk (zb (sp = true)) bs bo m5 m6 m7 su sl m8 lo sh)), (mj, .inl (cI, 10, .inl ne))] s.heap := hP
  refine lv_aload_n hx hb dX7_spreads_0 rfl (lv_at hl 0 rfl) ?_
  refine goRI hP hS (va_runV (As := []) (rest := []) ⟨hx, hb, hml, hown, hts⟩ (kX7_near l D cI cJ mo nn mm me mj mw mp mu ke bd ml sq mq fi gu le cs ba ov m1 m2 m3 m4 lk sp bs bo m5 m6 m7 su sl m8 lo sh ne (by omega)) (cwV 0 hts gX7_spreads_X7_near rfl rfl rfl kdX7_near ⟨Nat.le_of_ble_eq_true rfl, Nat.le_of_ble_eq_true rfl⟩) (preRV hK hN hP 0 (ci := 7) rfl rfl rfl [0, 1] rfl) rfl rfl hl.1 rfl (lv_room (Nat.le_of_ble_eq_true rfl)) dX7_spreads_1 ⟨Nat.zero_le _, Nat.zero_le _⟩) (fun H locs hP hS => ?_)
  refine lv_istore_n (lv' := [(1, .int (nearM nn ne fi gu)), (0, .ref mo)]) hx hb dX7_spreads_4 rfl hl (by decide) rfl (fun ls hl => ?_)
  refine lv_aload_n hx hb dX7_spreads_5 rfl (lv_at hl 1 rfl) ?_
  refine lv_dup hx hb dX7_spreads_6 rfl ?_
  refine va_get (D := D) (ci := 7) (v := .int fi) (C := RX7) (T := TX7) (N := 34) hx hb hts hi_7 hown hK hP 0 rfl rfl 12 (by decide) hf_103 (fun _ h9 => h9) rfl dX7_spreads_7 ?_
  refine lv_iload_n hx hb dX7_spreads_10 rfl (lv_at hl 0 rfl) ?_
  refine lv_ior hx hb dX7_spreads_11 ?_
  refine va_put (D := D) (ci := 7) (v := .int (fi ||| (nearM nn ne fi gu))) (ty := .int) (C := RX7) (T := TX7) (N := 34) hx hb hts hi_7 tyX7 tyX7_ok nmX7 hown hK hP hD hS 0 rfl rfl 12 (by decide) hf_103 (fun _ h9 => h9) rfl (by decide +kernel) rfl rfl (Nat.le_of_ble_eq_true rfl) dX7_spreads_12 (fun H locs hP hD hS => ?_)
  have hP : va_P D vwCl [(mo, .inr (7, moV (nI nn) (nI mm) me mj mw mp mu (zb (ke = true)) bd ml (nI sq) mq (fi ||| (nearM nn ne fi gu)) gu le cs (zb (ba = true)) ov m1 m2 m3 m4 lk (zb (sp = true)) bs bo m5 m6 m7 su sl m8 lo sh)), (mj, .inl (cI, 10, .inl ne))] H := hP
  have hD : va_D A [(mo, .inr (7, moV (nI nn) (nI mm) me mj mw mp mu (zb (ke = true)) bd ml (nI sq) mq (fi ||| (nearM nn ne fi gu)) gu le cs (zb (ba = true)) ov m1 m2 m3 m4 lk (zb (sp = true)) bs bo m5 m6 m7 su sl m8 lo sh)), (mj, .inl (cI, 10, .inl ne))] := hD
  refine lv_iload_n hx hb dX7_spreads_15 rfl (lv_at hl 0 rfl) ?_
  refine lv_if_eq (tgt := 23) hx hb dX7_spreads_16 (by decide) (fun c_16 => ?_) (fun c_16 => ?_)
  · refine lv_iconst (v := 0) hx hb dX7_spreads_23 (by decide) ?_
    exact endMZ () hx hb hr hlocks hA hQ hS hP dX7_spreads_24 rfl rfl (zb_f (fun h => h c_16))
  · refine lv_iconst (v := 1) hx hb dX7_spreads_19 (by decide) ?_
    refine lv_goto (tgt := 24) hx hb dX7_spreads_20 (by decide) ?_
    exact endMZ () hx hb hr hlocks hA hQ hS hP dX7_spreads_24 rfl rfl (zb_t (P := ¬ nearM nn ne fi gu = 0) c_16)
def rmX7_saved : Room := { frames := 1, cells := 0, slots := 0, locals := 23 }
theorem kdX7_saved : yX7_saved.cls = RX7 ∧ yX7_saved.cls ≠ "java/lang/invoke/MethodHandle" ∧ yX7_saved.cls ≠ "java/lang/invoke/VarHandle" ∧ (parseMethodDescriptor yX7_saved.desc).map (fun d => d.parameters.length) = some 0 := ⟨rfl, by decide +kernel, by decide +kernel, by decide +kernel⟩
set_option maxRecDepth 100000 in
set_option maxHeartbeats 1000000 in
theorem kX7_saved (l : Launch) (D : va_G) (cI cJ : ClassId) (mo : Nat) (nn : Nat) (mm : Nat) (me : Nat) (mj : Nat) (mw : Nat) (mp : Nat) (mu : Nat) (ke : Bool) (bd : Int32) (ml : Nat) (sq : Nat) (mq : Nat) (fi : Int32) (gu : Int32) (le : Int32) (cs : Int32) (ba : Bool) (ov : Int32) (m1 : Nat) (m2 : Nat) (m3 : Nat) (m4 : Nat) (lk : Int32) (sp : Bool) (bs : Int32) (bo : Int32) (m5 : Nat) (m6 : Nat) (m7 : Nat) (su : Int32) (sl : Int32) (m8 : Nat) (lo : Int32) (sh : Int32) (wo : Row) (hn10 : nn ≤ 10) : Met l yX7_saved wsX7_saved rmX7_saved (rPre D cI cJ [.ref mo] [(mo, .inr (7, moV (nI nn) (nI mm) me mj mw mp mu (zb (ke = true)) bd ml (nI sq) mq fi gu le cs (zb (ba = true)) ov m1 m2 m3 m4 lk (zb (sp = true)) bs bo m5 m6 m7 su sl m8 lo sh)), (mw, .inl (cI, 10, .inl wo))]) (qRI (savedM nn wo fi)) 0 0 nA := by
  refine startR (cc := cX7_saved) (maxL := 1) (ret := (some .int)) (by decide) rfl (Nat.le_of_ble_eq_true rfl) ?_
  intro p e s m args below meth c ls Q hQ hx hb hr hlocks hml hown hts hK hN hP hl hin
  have hown : s.vm.findClass RX7 = some m.cls := hown
  have hi_7 : ∀ w ∈ wsX70, w ∈ wsX7_saved := by decide +kernel
  have hf_103 := hts (.fieldLink RX7 103 "FireNetsModel" "fire" "I") (by decide +kernel)
  have hS : va_S nA s.heap s.heap [] := va_S.rf
  have hl : lv_has ls 1 [(0, .ref mo)] := hl
  have hP : va_P D vwCl [(mo, .inr (7, moV (nI nn) (nI mm) me mj mw mp mu (zb (ke = true)) bd ml (nI sq) mq fi gu le cs (zb (ba = true)) ov m1 m2 m3 m4 lk (zb (sp = true)) bs bo m5 m6 m7 su sl m8 lo sh)), (mw, .inl (cI, 10, .inl wo))] s.heap := hP
  refine lv_aload_n hx hb dX7_saved_0 rfl (lv_at hl 0 rfl) ?_
  refine lv_aload_n hx hb dX7_saved_1 rfl (lv_at hl 0 rfl) ?_
  refine goRI hP hS (va_runV (As := []) (rest := [.ref mo]) ⟨hx, hb, hml, hown, hts⟩ (kX7_all l D cI cJ mo nn mm me mj mw mp mu ke bd ml sq mq fi gu le cs ba ov m1 m2 m3 m4 lk sp bs bo m5 m6 m7 su sl m8 lo sh) (cwV 0 hts gX7_saved_X7_all rfl rfl rfl kdX7_all ⟨Nat.le_of_ble_eq_true rfl, Nat.le_of_ble_eq_true rfl⟩) (preRV hK hN hP 0 (ci := 7) rfl rfl rfl [0] rfl) rfl rfl hl.1 rfl (lv_room (Nat.le_of_ble_eq_true rfl)) dX7_saved_2 ⟨Nat.zero_le _, Nat.zero_le _⟩) (fun H locs hP hS => ?_)
  refine lv_aload_n hx hb dX7_saved_5 rfl (lv_at hl 0 rfl) ?_
  refine va_get (D := D) (ci := 7) (v := .int fi) (C := RX7) (T := TX7) (N := 34) hx hb hts hi_7 hown hK hP 0 rfl rfl 12 (by decide) hf_103 (fun _ h9 => h9) rfl dX7_saved_6 ?_
  refine lv_iconst (v := (-1)) hx hb dX7_saved_9 (by decide) ?_
  refine lv_ixor hx hb dX7_saved_10 ?_
  refine lv_iand hx hb dX7_saved_11 ?_
  refine goRI hP hS (va_runV (As := [.int ((allI (nI nn)) &&& (fi ^^^ (-1)))]) (rest := []) ⟨hx, hb, hml, hown, hts⟩ (kX7_worthOf l D cI cJ mo nn mm me mj mw mp mu ke bd ml sq mq fi gu le cs ba ov m1 m2 m3 m4 lk sp bs bo m5 m6 m7 su sl m8 lo sh wo ((allI (nI nn)) &&& (fi ^^^ (-1))) (by omega)) (cwV 1 hts gX7_saved_X7_worthOf rfl rfl rfl kdX7_worthOf ⟨Nat.le_of_ble_eq_true rfl, Nat.le_of_ble_eq_true rfl⟩) (preRV hK hN hP 0 (ci := 7) rfl rfl rfl [0, 1] rfl) rfl rfl hl.1 rfl (lv_room (Nat.le_of_ble_eq_true rfl)) dX7_saved_12 ⟨Nat.zero_le _, Nat.zero_le _⟩) (fun H locs hP hS => ?_)
  exact endRI hx hb hr hlocks hQ hS dX7_saved_15 rfl
def rmX7_bits : Room := { frames := 0, cells := 0, slots := 0, locals := 0 }
theorem kdX7_bits : yX7_bits.cls = RX7 ∧ yX7_bits.cls ≠ "java/lang/invoke/MethodHandle" ∧ yX7_bits.cls ≠ "java/lang/invoke/VarHandle" ∧ (parseMethodDescriptor yX7_bits.desc).map (fun d => d.parameters.length) = some 1 := ⟨rfl, by decide +kernel, by decide +kernel, by decide +kernel⟩
set_option maxRecDepth 100000 in
set_option maxHeartbeats 1000000 in
theorem kX7_bits (l : Launch) (D : va_G) (cI cJ : ClassId) (v : Int32)  : Met l yX7_bits wsX7_bits rmX7_bits (rPre D cI cJ [.int v] []) (qRI (bitsA v 10)) 0 0 nA := by
  refine startR (cc := cX7_bits) (maxL := 3) (ret := (some .int)) (by decide) rfl (Nat.le_of_ble_eq_true rfl) ?_
  intro p e s m args below meth c ls Q hQ hx hb hr hlocks hml hown hts hK hN hP hl hin
  have hown : s.vm.findClass RX7 = some m.cls := hown
  have hS : va_S nA s.heap s.heap [] := va_S.rf
  have hl : lv_has ls 3 [(0, .int v)] := hl
  have hP : va_P D vwCl [] s.heap := hP
  refine lv_iconst (v := 0) hx hb dX7_bits_0 (by decide) ?_
  refine lv_istore_n (lv' := [(1, .int 0), (0, .int v)]) hx hb dX7_bits_1 rfl hl (by decide) rfl (fun ls hl => ?_)
  refine lv_iconst (v := 0) hx hb dX7_bits_2 (by decide) ?_
  refine lv_istore_n (lv' := [(2, .int 0), (1, .int 0), (0, .int v)]) hx hb dX7_bits_3 rfl hl (by decide) rfl (fun ls hl => ?_)
  have lp : ∀ (fu : Nat) (k : Nat), (k ≤ 10) → 10 - k < fu → ∀ (ls : Array Slot) (H : Heap) (locs : List Loc), lv_has ls 3 [(0, .int v), (1, .int (bitsA v k)), (2, .int (nI k))] → va_P D vwCl [] H → va_S nA s.heap H locs → W p l e rmX7_bits s m args below meth c H locs 0 0 Q (F0 m 4 ls []) := by
    intro fu
    induction fu with
    | zero => intro k hk hf; exact absurd hf (Nat.not_lt_zero _)
    | succ fu ih_lp =>
      intro k hk hf ls H locs hl hP hS
      refine lv_iload_n hx hb dX7_bits_4 rfl (lv_at hl 2 rfl) ?_
      refine lv_bipush (v := 10) hx hb dX7_bits_5 (by decide) ?_
      refine r_icmp_ge (tgt := 24) hx hb k 10 dX7_bits_7 (by decide) rfl rfl (by omega) (by omega) (fun c_7 => ?_) (fun c_7 => ?_)
      · refine lv_iload_n hx hb dX7_bits_24 rfl (lv_at hl 1 rfl) ?_
        exact endRI hx hb hr hlocks hQ hS dX7_bits_25 (by rw [show k = 10 by omega])
      · refine lv_iload_n hx hb dX7_bits_10 rfl (lv_at hl 1 rfl) ?_
        refine lv_iload_n hx hb dX7_bits_11 rfl (lv_at hl 0 rfl) ?_
        refine lv_iload_n hx hb dX7_bits_12 rfl (lv_at hl 2 rfl) ?_
        refine lv_ishr hx hb dX7_bits_13 ?_
        refine lv_iconst (v := 1) hx hb dX7_bits_14 (by decide) ?_
        refine lv_iand hx hb dX7_bits_15 ?_
        refine lv_iadd hx hb dX7_bits_16 ?_
        refine lv_istore_n (lv' := [(1, .int ((bitsA v k) + ((v >>> ((nI k) &&& 31)) &&& 1))), (0, .int v), (2, .int (nI k))]) hx hb dX7_bits_17 rfl hl (by decide) rfl (fun ls hl => ?_)
        refine r_iinc (lv' := [(2, .int (nI (k + 1))), (1, .int ((bitsA v k) + ((v >>> ((nI k) &&& 31)) &&& 1))), (0, .int v)]) hx hb 2 k dX7_bits_18 hl rfl (by decide) rfl (fun ls hl => ?_)
        refine lv_goto (tgt := 4) hx hb dX7_bits_21 (by decide) ?_
        exact ih_lp (k + 1) (by omega) (by omega) ls _ _ (lv_sub hl [2, 1, 0] rfl) hP hS
  exact lp _ 0 (by omega) (Nat.lt_succ_self _) ls _ _ (lv_sub hl [2, 1, 0] rfl) hP hS
def rmX7_next : Room := { frames := 1, cells := 0, slots := 0, locals := 22 }
theorem kdX7_next : yX7_next.cls = RX7 ∧ yX7_next.cls ≠ "java/lang/invoke/MethodHandle" ∧ yX7_next.cls ≠ "java/lang/invoke/VarHandle" ∧ (parseMethodDescriptor yX7_next.desc).map (fun d => d.parameters.length) = some 1 := ⟨rfl, by decide +kernel, by decide +kernel, by decide +kernel⟩
set_option maxRecDepth 100000 in
set_option maxHeartbeats 1000000 in
theorem kX7_next (l : Launch) (D : va_G) (cI cJ : ClassId) (mo : Nat) (nn : Nat) (mm : Nat) (me : Nat) (mj : Nat) (mw : Nat) (mp : Nat) (mu : Nat) (ke : Bool) (bd : Int32) (ml : Nat) (sq : Nat) (mq : Nat) (fi : Int32) (gu : Int32) (le : Int32) (cs : Int32) (ba : Bool) (ov : Int32) (m1 : Nat) (m2 : Nat) (m3 : Nat) (m4 : Nat) (lk : Int32) (sp : Bool) (bs : Int32) (bo : Int32) (m5 : Nat) (m6 : Nat) (m7 : Nat) (su : Int32) (sl : Int32) (m8 : Nat) (lo : Int32) (sh : Int32) (ne : Row) (wo : Row) (pr : Row) (ru : Int32) (hn10 : nn ≤ 10) : Met l yX7_next wsX7_next rmX7_next (rPre D cI cJ [.ref mo, .int ru] [(mo, .inr (7, moV (nI nn) (nI mm) me mj mw mp mu (zb (ke = true)) bd ml (nI sq) mq fi gu le cs (zb (ba = true)) ov m1 m2 m3 m4 lk (zb (sp = true)) bs bo m5 m6 m7 su sl m8 lo sh)), (mj, .inl (cI, 10, .inl ne)), (mw, .inl (cI, 10, .inl wo)), (mp, .inl (cI, 10, .inl pr))]) (qRI (nextM nn wo ne pr ru (fi, gu, le, cs))) 0 0 nA := by
  refine startR (cc := cX7_next) (maxL := 6) (ret := (some .int)) (by decide) rfl (Nat.le_of_ble_eq_true rfl) ?_
  intro p e s m args below meth c ls Q hQ hx hb hr hlocks hml hown hts hK hN hP hl hin
  have hown : s.vm.findClass RX7 = some m.cls := hown
  have hi_7 : ∀ w ∈ wsX70, w ∈ wsX7_next := by decide +kernel
  have hf_7 := hts (.fieldLink RX7 7 "FireNetsModel" "n" "I") (by decide +kernel)
  have hf_17 := hts (.fieldLink RX7 17 "FireNetsModel" "joined" "[I") (by decide +kernel)
  have hf_20 := hts (.fieldLink RX7 20 "FireNetsModel" "worth" "[I") (by decide +kernel)
  have hf_23 := hts (.fieldLink RX7 23 "FireNetsModel" "price" "[I") (by decide +kernel)
  have hf_103 := hts (.fieldLink RX7 103 "FireNetsModel" "fire" "I") (by decide +kernel)
  have hf_106 := hts (.fieldLink RX7 106 "FireNetsModel" "guards" "I") (by decide +kernel)
  have hf_109 := hts (.fieldLink RX7 109 "FireNetsModel" "left" "I") (by decide +kernel)
  have hS : va_S nA s.heap s.heap [] := va_S.rf
  have hl : lv_has ls 6 [(0, .ref mo), (1, .int ru)] := hl
  have hP : va_P D vwCl [(mo, .inr (7, moV (nI nn) (nI mm) me mj mw mp mu (zb (ke = true)) bd ml (nI sq) mq fi gu le cs (zb (ba = true)) ov m1 m2 m3 m4 lk (zb (sp = true)) bs bo m5 m6 m7 su sl m8 lo sh)), (mj, .inl (cI, 10, .inl ne)), (mw, .inl (cI, 10, .inl wo)), (mp, .inl (cI, 10, .inl pr))] s.heap := hP
  refine lv_iconst (v := (-1)) hx hb dX7_next_0 (by decide) ?_
  refine lv_istore_n (lv' := [(2, .int (-1)), (0, .ref mo), (1, .int ru)]) hx hb dX7_next_1 rfl hl (by decide) rfl (fun ls hl => ?_)
  refine lv_iconst (v := (-1)) hx hb dX7_next_2 (by decide) ?_
  refine lv_istore_n (lv' := [(3, .int (-1)), (2, .int (-1)), (0, .ref mo), (1, .int ru)]) hx hb dX7_next_3 rfl hl (by decide) rfl (fun ls hl => ?_)
  refine lv_iconst (v := 0) hx hb dX7_next_4 (by decide) ?_
  refine lv_istore (lv' := [(4, .int 0), (3, .int (-1)), (2, .int (-1)), (0, .ref mo), (1, .int ru)]) hx hb dX7_next_5 hl (by decide) rfl (fun ls hl => ?_)
  have lp : ∀ (fu : Nat) (k : Nat), (k ≤ nn) → nn - k < fu → ∀ (ls : Array Slot) (H : Heap) (locs : List Loc), lv_has ls 6 [(0, .ref mo), (1, .int ru), (2, .int ((nextA nn wo ne pr ru fi gu le k).1)), (3, .int ((nextA nn wo ne pr ru fi gu le k).2)), (4, .int (nI k))] → va_P D vwCl [(mo, .inr (7, moV (nI nn) (nI mm) me mj mw mp mu (zb (ke = true)) bd ml (nI sq) mq fi gu le cs (zb (ba = true)) ov m1 m2 m3 m4 lk (zb (sp = true)) bs bo m5 m6 m7 su sl m8 lo sh)), (mj, .inl (cI, 10, .inl ne)), (mw, .inl (cI, 10, .inl wo)), (mp, .inl (cI, 10, .inl pr))] H → va_S nA s.heap H locs → W p l e rmX7_next s m args below meth c H locs 0 0 Q (F0 m 7 ls []) := by
    intro fu
    induction fu with
    | zero => intro k hk hf; exact absurd hf (Nat.not_lt_zero _)
    | succ fu ih_lp =>
      intro k hk hf ls H locs hl hP hS
      refine lv_iload hx hb dX7_next_7 (lv_at hl 4 rfl) ?_
      refine lv_aload_n hx hb dX7_next_9 rfl (lv_at hl 0 rfl) ?_
      refine va_get (D := D) (ci := 7) (v := .int (nI nn)) (C := RX7) (T := TX7) (N := 34) hx hb hts hi_7 hown hK hP 0 rfl rfl 0 (by decide) hf_7 (fun _ h9 => h9) rfl dX7_next_10 ?_
      refine r_icmp_ge (tgt := 124) hx hb k nn dX7_next_13 (by decide) rfl rfl (by omega) (by omega) (fun c_13 => ?_) (fun c_13 => ?_)
      · refine lv_iload_n hx hb dX7_next_124 rfl (lv_at hl 2 rfl) ?_
        exact endRI hx hb hr hlocks hQ hS dX7_next_125 (by rw [nextM, show nn = k by omega])
      · refine lv_aload_n hx hb dX7_next_16 rfl (lv_at hl 0 rfl) ?_
        refine goRI hP hS (va_runV (As := []) (rest := []) ⟨hx, hb, hml, hown, hts⟩ (kX7_near l D cI cJ mo nn mm me mj mw mp mu ke bd ml sq mq fi gu le cs ba ov m1 m2 m3 m4 lk sp bs bo m5 m6 m7 su sl m8 lo sh ne (by omega)) (cwV 0 hts gX7_next_X7_near rfl rfl rfl kdX7_near ⟨Nat.le_of_ble_eq_true rfl, Nat.le_of_ble_eq_true rfl⟩) (preRV hK hN hP 0 (ci := 7) rfl rfl rfl [0, 1] rfl) rfl rfl hl.1 rfl (lv_room (Nat.le_of_ble_eq_true rfl)) dX7_next_17 ⟨Nat.zero_le _, Nat.zero_le _⟩) (fun H locs hP hS => ?_)
        refine lv_iload hx hb dX7_next_20 (lv_at hl 4 rfl) ?_
        refine lv_ishr hx hb dX7_next_22 ?_
        refine lv_iconst (v := 1) hx hb dX7_next_23 (by decide) ?_
        refine lv_iand hx hb dX7_next_24 ?_
        refine lv_iconst (v := 1) hx hb dX7_next_25 (by decide) ?_
        refine lv_icmp_ne (tgt := 118) hx hb dX7_next_26 (by decide) (fun c_26 => ?_) (fun c_26 => ?_)
        · refine r_iinc (lv' := [(4, .int (nI (k + 1))), (0, .ref mo), (1, .int ru), (2, .int ((nextA nn wo ne pr ru fi gu le k).1)), (3, .int ((nextA nn wo ne pr ru fi gu le k).2))]) hx hb 4 k dX7_next_118 hl rfl (by decide) rfl (fun ls hl => ?_)
          refine lv_goto (tgt := 7) hx hb dX7_next_121 (by decide) ?_
          exact ih_lp (k + 1) (by omega) (by omega) ls _ _ (by rw [nextA, nextS, if_neg (show ¬ bt (nearM nn ne fi gu) (nI k) = 1 from c_26)]; exact lv_sub hl [1, 2, 3, 4, 0] rfl) hP hS
        · refine lv_aload_n hx hb dX7_next_29 rfl (lv_at hl 0 rfl) ?_
          refine va_get (D := D) (ci := 7) (v := .ref mp) (C := RX7) (T := TX7) (N := 34) hx hb hts hi_7 hown hK hP 0 rfl rfl 5 (by decide) hf_23 (fun _ h9 => h9) rfl dX7_next_30 ?_
          refine lv_iload hx hb dX7_next_33 (lv_at hl 4 rfl) ?_
          refine r_iald hx hb hK hP 3 rfl k rfl (by omega) (by omega) dX7_next_35 ?_
          refine lv_aload_n hx hb dX7_next_36 rfl (lv_at hl 0 rfl) ?_
          refine va_get (D := D) (ci := 7) (v := .int le) (C := RX7) (T := TX7) (N := 34) hx hb hts hi_7 hown hK hP 0 rfl rfl 14 (by decide) hf_109 (fun _ h9 => h9) rfl dX7_next_37 ?_
          refine lv_icmp_gt (tgt := 118) hx hb dX7_next_40 (by decide) (fun c_40 => ?_) (fun c_40 => ?_)
          · refine r_iinc (lv' := [(4, .int (nI (k + 1))), (0, .ref mo), (1, .int ru), (2, .int ((nextA nn wo ne pr ru fi gu le k).1)), (3, .int ((nextA nn wo ne pr ru fi gu le k).2))]) hx hb 4 k dX7_next_118 hl rfl (by decide) rfl (fun ls hl => ?_)
            refine lv_goto (tgt := 7) hx hb dX7_next_121 (by decide) ?_
            exact ih_lp (k + 1) (by omega) (by omega) ls _ _ (by rw [nextA, nextS, if_pos (show bt (nearM nn ne fi gu) (nI k) = 1 from c_26), if_neg (i_nle c_40)]; exact lv_sub hl [1, 2, 3, 4, 0] rfl) hP hS
          · refine lv_iload_n hx hb dX7_next_43 rfl (lv_at hl 1 rfl) ?_
            refine lv_if_ne (tgt := 51) hx hb dX7_next_44 (by decide) (fun c_44 => ?_) (fun c_44 => ?_)
            · refine lv_iload_n hx hb dX7_next_51 rfl (lv_at hl 1 rfl) ?_
              refine lv_iconst (v := 1) hx hb dX7_next_52 (by decide) ?_
              refine lv_icmp_ne (tgt := 66) hx hb dX7_next_53 (by decide) (fun c_53 => ?_) (fun c_53 => ?_)
              · refine lv_aload_n hx hb dX7_next_66 rfl (lv_at hl 0 rfl) ?_
                refine va_get (D := D) (ci := 7) (v := .ref mj) (C := RX7) (T := TX7) (N := 34) hx hb hts hi_7 hown hK hP 0 rfl rfl 3 (by decide) hf_17 (fun _ h9 => h9) rfl dX7_next_67 ?_
                refine lv_iload hx hb dX7_next_70 (lv_at hl 4 rfl) ?_
                refine r_iald hx hb hK hP 1 rfl k rfl (by omega) (by omega) dX7_next_72 ?_
                refine lv_aload_n hx hb dX7_next_73 rfl (lv_at hl 0 rfl) ?_
                refine va_get (D := D) (ci := 7) (v := .int fi) (C := RX7) (T := TX7) (N := 34) hx hb hts hi_7 hown hK hP 0 rfl rfl 12 (by decide) hf_103 (fun _ h9 => h9) rfl dX7_next_74 ?_
                refine lv_iconst (v := (-1)) hx hb dX7_next_77 (by decide) ?_
                refine lv_ixor hx hb dX7_next_78 ?_
                refine lv_iand hx hb dX7_next_79 ?_
                refine lv_aload_n hx hb dX7_next_80 rfl (lv_at hl 0 rfl) ?_
                refine va_get (D := D) (ci := 7) (v := .int gu) (C := RX7) (T := TX7) (N := 34) hx hb hts hi_7 hown hK hP 0 rfl rfl 13 (by decide) hf_106 (fun _ h9 => h9) rfl dX7_next_81 ?_
                refine lv_iconst (v := (-1)) hx hb dX7_next_84 (by decide) ?_
                refine lv_ixor hx hb dX7_next_85 ?_
                refine lv_iand hx hb dX7_next_86 ?_
                refine goRI hP hS (va_runS (As := [.int (((ne k) &&& (fi ^^^ (-1))) &&& (gu ^^^ (-1)))]) (rest := []) ⟨hx, hb, hml, hown, hts⟩ (kX7_bits l D cI cJ (((ne k) &&& (fi ^^^ (-1))) &&& (gu ^^^ (-1)))) (va_cwS 1 hts gX7_next_X7_bits rfl rfl rfl kdX7_bits.2 ⟨Nat.le_of_ble_eq_true rfl, Nat.le_of_ble_eq_true rfl⟩) (preR hK hN hP [] rfl) rfl rfl hl.1 rfl (lv_room (Nat.le_of_ble_eq_true rfl)) dX7_next_87 ⟨Nat.zero_le _, Nat.zero_le _⟩) (fun H locs hP hS => ?_)
                refine lv_istore (lv' := [(5, .int (bitsA (((ne k) &&& (fi ^^^ (-1))) &&& (gu ^^^ (-1))) 10)), (0, .ref mo), (1, .int ru), (2, .int ((nextA nn wo ne pr ru fi gu le k).1)), (3, .int ((nextA nn wo ne pr ru fi gu le k).2)), (4, .int (nI k))]) hx hb dX7_next_90 hl (by decide) rfl (fun ls hl => ?_)
                refine lv_iload hx hb dX7_next_92 (lv_at hl 0 rfl) ?_
                refine lv_iload_n hx hb dX7_next_94 rfl (lv_at hl 4 rfl) ?_
                refine lv_icmp_le (tgt := 103) hx hb dX7_next_95 (by decide) (fun c_95 => ?_) (fun c_95 => ?_)
                · refine lv_iload_n hx hb dX7_next_103 rfl (lv_at hl 3 rfl) ?_
                  refine lv_istore_n (lv' := [(2, .int ((nextA nn wo ne pr ru fi gu le k).1)), (5, .int (bitsA (((ne k) &&& (fi ^^^ (-1))) &&& (gu ^^^ (-1))) 10)), (0, .ref mo), (1, .int ru), (3, .int ((nextA nn wo ne pr ru fi gu le k).2)), (4, .int (nI k))]) hx hb dX7_next_104 rfl hl (by decide) rfl (fun ls hl => ?_)
                  refine lv_iload hx hb dX7_next_105 (lv_at hl 1 rfl) ?_
                  refine lv_iload_n hx hb dX7_next_107 rfl (lv_at hl 4 rfl) ?_
                  refine lv_icmp_le (tgt := 116) hx hb dX7_next_108 (by decide) (fun c_108 => ?_) (fun c_108 => ?_)
                  · refine lv_iload_n hx hb dX7_next_116 rfl (lv_at hl 4 rfl) ?_
                    refine lv_istore_n (lv' := [(3, .int ((nextA nn wo ne pr ru fi gu le k).2)), (2, .int ((nextA nn wo ne pr ru fi gu le k).1)), (5, .int (bitsA (((ne k) &&& (fi ^^^ (-1))) &&& (gu ^^^ (-1))) 10)), (0, .ref mo), (1, .int ru), (4, .int (nI k))]) hx hb dX7_next_117 rfl hl (by decide) rfl (fun ls hl => ?_)
                    refine r_iinc (lv' := [(4, .int (nI (k + 1))), (3, .int ((nextA nn wo ne pr ru fi gu le k).2)), (2, .int ((nextA nn wo ne pr ru fi gu le k).1)), (5, .int (bitsA (((ne k) &&& (fi ^^^ (-1))) &&& (gu ^^^ (-1))) 10)), (0, .ref mo), (1, .int ru)]) hx hb 5 k dX7_next_118 hl rfl (by decide) rfl (fun ls hl => ?_)
                    refine lv_goto (tgt := 7) hx hb dX7_next_121 (by decide) ?_
                    exact ih_lp (k + 1) (by omega) (by omega) ls _ _ (by rw [nextA, nextS, if_pos (show bt (nearM nn ne fi gu) (nI k) = 1 from c_26), if_pos (i_lt c_40)]; rw [show rankM wo ne ru fi gu k = _ by rw [rankM, if_neg c_44, if_neg c_53]]; rw [if_neg (i_nlt c_95)]; exact lv_sub hl [4, 5, 2, 1, 0] rfl) hP hS
                  · exact absurd c_95 c_108
                · refine lv_iload hx hb dX7_next_98 (lv_at hl 5 rfl) ?_
                  refine lv_goto (tgt := 104) hx hb dX7_next_100 (by decide) ?_
                  refine lv_istore_n (lv' := [(2, .int (nI k)), (5, .int (bitsA (((ne k) &&& (fi ^^^ (-1))) &&& (gu ^^^ (-1))) 10)), (0, .ref mo), (1, .int ru), (3, .int ((nextA nn wo ne pr ru fi gu le k).2)), (4, .int (nI k))]) hx hb dX7_next_104 rfl hl (by decide) rfl (fun ls hl => ?_)
                  refine lv_iload hx hb dX7_next_105 (lv_at hl 1 rfl) ?_
                  refine lv_iload_n hx hb dX7_next_107 rfl (lv_at hl 4 rfl) ?_
                  refine lv_icmp_le (tgt := 116) hx hb dX7_next_108 (by decide) (fun c_108 => ?_) (fun c_108 => ?_)
                  · exact absurd c_108 (i_nle (i_le c_95))
                  · refine lv_iload hx hb dX7_next_111 (lv_at hl 1 rfl) ?_
                    refine lv_goto (tgt := 117) hx hb dX7_next_113 (by decide) ?_
                    refine lv_istore_n (lv' := [(3, .int (bitsA (((ne k) &&& (fi ^^^ (-1))) &&& (gu ^^^ (-1))) 10)), (2, .int (nI k)), (5, .int (bitsA (((ne k) &&& (fi ^^^ (-1))) &&& (gu ^^^ (-1))) 10)), (0, .ref mo), (1, .int ru), (4, .int (nI k))]) hx hb dX7_next_117 rfl hl (by decide) rfl (fun ls hl => ?_)
                    refine r_iinc (lv' := [(4, .int (nI (k + 1))), (3, .int (bitsA (((ne k) &&& (fi ^^^ (-1))) &&& (gu ^^^ (-1))) 10)), (2, .int (nI k)), (5, .int (bitsA (((ne k) &&& (fi ^^^ (-1))) &&& (gu ^^^ (-1))) 10)), (0, .ref mo), (1, .int ru)]) hx hb 5 k dX7_next_118 hl rfl (by decide) rfl (fun ls hl => ?_)
                    refine lv_goto (tgt := 7) hx hb dX7_next_121 (by decide) ?_
                    exact ih_lp (k + 1) (by omega) (by omega) ls _ _ (by rw [nextA, nextS, if_pos (show bt (nearM nn ne fi gu) (nI k) = 1 from c_26), if_pos (i_lt c_40)]; rw [show rankM wo ne ru fi gu k = _ by rw [rankM, if_neg c_44, if_neg c_53]]; rw [if_pos (i_le c_95)]; exact lv_sub hl [4, 5, 2, 1, 0] rfl) hP hS
              · refine lv_aload_n hx hb dX7_next_56 rfl (lv_at hl 0 rfl) ?_
                refine va_get (D := D) (ci := 7) (v := .ref mw) (C := RX7) (T := TX7) (N := 34) hx hb hts hi_7 hown hK hP 0 rfl rfl 4 (by decide) hf_20 (fun _ h9 => h9) rfl dX7_next_57 ?_
                refine lv_iload hx hb dX7_next_60 (lv_at hl 4 rfl) ?_
                refine r_iald hx hb hK hP 2 rfl k rfl (by omega) (by omega) dX7_next_62 ?_
                refine lv_goto (tgt := 90) hx hb dX7_next_63 (by decide) ?_
                refine lv_istore (lv' := [(5, .int (wo k)), (0, .ref mo), (1, .int ru), (2, .int ((nextA nn wo ne pr ru fi gu le k).1)), (3, .int ((nextA nn wo ne pr ru fi gu le k).2)), (4, .int (nI k))]) hx hb dX7_next_90 hl (by decide) rfl (fun ls hl => ?_)
                refine lv_iload hx hb dX7_next_92 (lv_at hl 0 rfl) ?_
                refine lv_iload_n hx hb dX7_next_94 rfl (lv_at hl 4 rfl) ?_
                refine lv_icmp_le (tgt := 103) hx hb dX7_next_95 (by decide) (fun c_95 => ?_) (fun c_95 => ?_)
                · refine lv_iload_n hx hb dX7_next_103 rfl (lv_at hl 3 rfl) ?_
                  refine lv_istore_n (lv' := [(2, .int ((nextA nn wo ne pr ru fi gu le k).1)), (5, .int (wo k)), (0, .ref mo), (1, .int ru), (3, .int ((nextA nn wo ne pr ru fi gu le k).2)), (4, .int (nI k))]) hx hb dX7_next_104 rfl hl (by decide) rfl (fun ls hl => ?_)
                  refine lv_iload hx hb dX7_next_105 (lv_at hl 1 rfl) ?_
                  refine lv_iload_n hx hb dX7_next_107 rfl (lv_at hl 4 rfl) ?_
                  refine lv_icmp_le (tgt := 116) hx hb dX7_next_108 (by decide) (fun c_108 => ?_) (fun c_108 => ?_)
                  · refine lv_iload_n hx hb dX7_next_116 rfl (lv_at hl 4 rfl) ?_
                    refine lv_istore_n (lv' := [(3, .int ((nextA nn wo ne pr ru fi gu le k).2)), (2, .int ((nextA nn wo ne pr ru fi gu le k).1)), (5, .int (wo k)), (0, .ref mo), (1, .int ru), (4, .int (nI k))]) hx hb dX7_next_117 rfl hl (by decide) rfl (fun ls hl => ?_)
                    refine r_iinc (lv' := [(4, .int (nI (k + 1))), (3, .int ((nextA nn wo ne pr ru fi gu le k).2)), (2, .int ((nextA nn wo ne pr ru fi gu le k).1)), (5, .int (wo k)), (0, .ref mo), (1, .int ru)]) hx hb 5 k dX7_next_118 hl rfl (by decide) rfl (fun ls hl => ?_)
                    refine lv_goto (tgt := 7) hx hb dX7_next_121 (by decide) ?_
                    exact ih_lp (k + 1) (by omega) (by omega) ls _ _ (by rw [nextA, nextS, if_pos (show bt (nearM nn ne fi gu) (nI k) = 1 from c_26), if_pos (i_lt c_40)]; rw [show rankM wo ne ru fi gu k = _ by rw [rankM, if_neg c_44, if_pos c_53]]; rw [if_neg (i_nlt c_95)]; exact lv_sub hl [4, 5, 2, 1, 0] rfl) hP hS
                  · exact absurd c_95 c_108
                · refine lv_iload hx hb dX7_next_98 (lv_at hl 5 rfl) ?_
                  refine lv_goto (tgt := 104) hx hb dX7_next_100 (by decide) ?_
                  refine lv_istore_n (lv' := [(2, .int (nI k)), (5, .int (wo k)), (0, .ref mo), (1, .int ru), (3, .int ((nextA nn wo ne pr ru fi gu le k).2)), (4, .int (nI k))]) hx hb dX7_next_104 rfl hl (by decide) rfl (fun ls hl => ?_)
                  refine lv_iload hx hb dX7_next_105 (lv_at hl 1 rfl) ?_
                  refine lv_iload_n hx hb dX7_next_107 rfl (lv_at hl 4 rfl) ?_
                  refine lv_icmp_le (tgt := 116) hx hb dX7_next_108 (by decide) (fun c_108 => ?_) (fun c_108 => ?_)
                  · exact absurd c_108 (i_nle (i_le c_95))
                  · refine lv_iload hx hb dX7_next_111 (lv_at hl 1 rfl) ?_
                    refine lv_goto (tgt := 117) hx hb dX7_next_113 (by decide) ?_
                    refine lv_istore_n (lv' := [(3, .int (wo k)), (2, .int (nI k)), (5, .int (wo k)), (0, .ref mo), (1, .int ru), (4, .int (nI k))]) hx hb dX7_next_117 rfl hl (by decide) rfl (fun ls hl => ?_)
                    refine r_iinc (lv' := [(4, .int (nI (k + 1))), (3, .int (wo k)), (2, .int (nI k)), (5, .int (wo k)), (0, .ref mo), (1, .int ru)]) hx hb 5 k dX7_next_118 hl rfl (by decide) rfl (fun ls hl => ?_)
                    refine lv_goto (tgt := 7) hx hb dX7_next_121 (by decide) ?_
                    exact ih_lp (k + 1) (by omega) (by omega) ls _ _ (by rw [nextA, nextS, if_pos (show bt (nearM nn ne fi gu) (nI k) = 1 from c_26), if_pos (i_lt c_40)]; rw [show rankM wo ne ru fi gu k = _ by rw [rankM, if_neg c_44, if_pos c_53]]; rw [if_pos (i_le c_95)]; exact lv_sub hl [4, 5, 2, 1, 0] rfl) hP hS
            · refine lv_iconst (v := 0) hx hb dX7_next_47 (by decide) ?_
              refine lv_goto (tgt := 90) hx hb dX7_next_48 (by decide) ?_
              refine lv_istore (lv' := [(5, .int 0), (0, .ref mo), (1, .int ru), (2, .int ((nextA nn wo ne pr ru fi gu le k).1)), (3, .int ((nextA nn wo ne pr ru fi gu le k).2)), (4, .int (nI k))]) hx hb dX7_next_90 hl (by decide) rfl (fun ls hl => ?_)
              refine lv_iload hx hb dX7_next_92 (lv_at hl 0 rfl) ?_
              refine lv_iload_n hx hb dX7_next_94 rfl (lv_at hl 4 rfl) ?_
              refine lv_icmp_le (tgt := 103) hx hb dX7_next_95 (by decide) (fun c_95 => ?_) (fun c_95 => ?_)
              · refine lv_iload_n hx hb dX7_next_103 rfl (lv_at hl 3 rfl) ?_
                refine lv_istore_n (lv' := [(2, .int ((nextA nn wo ne pr ru fi gu le k).1)), (5, .int 0), (0, .ref mo), (1, .int ru), (3, .int ((nextA nn wo ne pr ru fi gu le k).2)), (4, .int (nI k))]) hx hb dX7_next_104 rfl hl (by decide) rfl (fun ls hl => ?_)
                refine lv_iload hx hb dX7_next_105 (lv_at hl 1 rfl) ?_
                refine lv_iload_n hx hb dX7_next_107 rfl (lv_at hl 4 rfl) ?_
                refine lv_icmp_le (tgt := 116) hx hb dX7_next_108 (by decide) (fun c_108 => ?_) (fun c_108 => ?_)
                · refine lv_iload_n hx hb dX7_next_116 rfl (lv_at hl 4 rfl) ?_
                  refine lv_istore_n (lv' := [(3, .int ((nextA nn wo ne pr ru fi gu le k).2)), (2, .int ((nextA nn wo ne pr ru fi gu le k).1)), (5, .int 0), (0, .ref mo), (1, .int ru), (4, .int (nI k))]) hx hb dX7_next_117 rfl hl (by decide) rfl (fun ls hl => ?_)
                  refine r_iinc (lv' := [(4, .int (nI (k + 1))), (3, .int ((nextA nn wo ne pr ru fi gu le k).2)), (2, .int ((nextA nn wo ne pr ru fi gu le k).1)), (5, .int 0), (0, .ref mo), (1, .int ru)]) hx hb 5 k dX7_next_118 hl rfl (by decide) rfl (fun ls hl => ?_)
                  refine lv_goto (tgt := 7) hx hb dX7_next_121 (by decide) ?_
                  exact ih_lp (k + 1) (by omega) (by omega) ls _ _ (by rw [nextA, nextS, if_pos (show bt (nearM nn ne fi gu) (nI k) = 1 from c_26), if_pos (i_lt c_40)]; rw [show rankM wo ne ru fi gu k = _ by rw [rankM, if_pos c_44]]; rw [if_neg (i_nlt c_95)]; exact lv_sub hl [4, 5, 2, 1, 0] rfl) hP hS
                · exact absurd c_95 c_108
              · refine lv_iload hx hb dX7_next_98 (lv_at hl 5 rfl) ?_
                refine lv_goto (tgt := 104) hx hb dX7_next_100 (by decide) ?_
                refine lv_istore_n (lv' := [(2, .int (nI k)), (5, .int 0), (0, .ref mo), (1, .int ru), (3, .int ((nextA nn wo ne pr ru fi gu le k).2)), (4, .int (nI k))]) hx hb dX7_next_104 rfl hl (by decide) rfl (fun ls hl => ?_)
                refine lv_iload hx hb dX7_next_105 (lv_at hl 1 rfl) ?_
                refine lv_iload_n hx hb dX7_next_107 rfl (lv_at hl 4 rfl) ?_
                refine lv_icmp_le (tgt := 116) hx hb dX7_next_108 (by decide) (fun c_108 => ?_) (fun c_108 => ?_)
                · exact absurd c_108 (i_nle (i_le c_95))
                · refine lv_iload hx hb dX7_next_111 (lv_at hl 1 rfl) ?_
                  refine lv_goto (tgt := 117) hx hb dX7_next_113 (by decide) ?_
                  refine lv_istore_n (lv' := [(3, .int 0), (2, .int (nI k)), (5, .int 0), (0, .ref mo), (1, .int ru), (4, .int (nI k))]) hx hb dX7_next_117 rfl hl (by decide) rfl (fun ls hl => ?_)
                  refine r_iinc (lv' := [(4, .int (nI (k + 1))), (3, .int 0), (2, .int (nI k)), (5, .int 0), (0, .ref mo), (1, .int ru)]) hx hb 5 k dX7_next_118 hl rfl (by decide) rfl (fun ls hl => ?_)
                  refine lv_goto (tgt := 7) hx hb dX7_next_121 (by decide) ?_
                  exact ih_lp (k + 1) (by omega) (by omega) ls _ _ (by rw [nextA, nextS, if_pos (show bt (nearM nn ne fi gu) (nI k) = 1 from c_26), if_pos (i_lt c_40)]; rw [show rankM wo ne ru fi gu k = _ by rw [rankM, if_pos c_44]]; rw [if_pos (i_le c_95)]; exact lv_sub hl [4, 5, 2, 1, 0] rfl) hP hS
  exact lp _ 0 (by omega) (Nat.lt_succ_self _) ls _ _ (lv_sub hl [3, 4, 2, 1, 0] rfl) hP hS
def rmX7_playTo : Room := { frames := 2, cells := 0, slots := 0, locals := 44 }
theorem kdX7_playTo : yX7_playTo.cls = RX7 ∧ yX7_playTo.cls ≠ "java/lang/invoke/MethodHandle" ∧ yX7_playTo.cls ≠ "java/lang/invoke/VarHandle" ∧ (parseMethodDescriptor yX7_playTo.desc).map (fun d => d.parameters.length) = some 2 := ⟨rfl, by decide +kernel, by decide +kernel, by decide +kernel⟩
set_option maxRecDepth 100000 in
set_option maxHeartbeats 1000000 in
theorem kX7_playTo (l : Launch) (D : va_G) (cI cJ : ClassId) (mo : Nat) (nn : Nat) (mm : Nat) (me : Nat) (mj : Nat) (mw : Nat) (mp : Nat) (mu : Nat) (ke : Bool) (bd : Int32) (ml : Nat) (sq : Nat) (mq : Nat) (xm : Pm) (m1 : Nat) (m2 : Nat) (m3 : Nat) (m4 : Nat) (lk : Int32) (sp : Bool) (bs : Int32) (bo : Int32) (m5 : Nat) (m6 : Nat) (m7 : Nat) (su : Int32) (sl : Int32) (m8 : Nat) (lo : Int32) (sh : Int32) (ne : Row) (pr : Row) (ow : Row) (pl : Row) (fire : Int32) (la : Nat) (y : Pm) (hn10 : nn ≤ 10) (hla : la ≤ 30) (hy : y = playA nn pr ne ow pl ke fire la) : Met l yX7_playTo wsX7_playTo rmX7_playTo (mPre D cI cJ [.ref mo, .int fire, .int (nI la)] [(mo, .inr (7, moV (nI nn) (nI mm) me mj mw mp mu (zb (ke = true)) bd ml (nI sq) mq xm.1 xm.2.1 xm.2.2.1 xm.2.2.2.1 (zb (xm.2.2.2.2.1 = true)) xm.2.2.2.2.2 m1 m2 m3 m4 lk (zb (sp = true)) bs bo m5 m6 m7 su sl m8 lo sh)), (mj, .inl (cI, 10, .inl ne)), (mp, .inl (cI, 10, .inl pr)), (mu, .inl (cI, 9, .inl ow)), (ml, .inl (cI, 9, .inl pl))]) (mQv D (fun (_ : Unit) => True) (fun (_ : Unit) => [(mo, .inr (7, moV (nI nn) (nI mm) me mj mw mp mu (zb (ke = true)) bd ml (nI sq) mq y.1 y.2.1 y.2.2.1 y.2.2.2.1 (zb (y.2.2.2.2.1 = true)) y.2.2.2.2.2 m1 m2 m3 m4 lk (zb (sp = true)) bs bo m5 m6 m7 su sl m8 lo sh)), (mj, .inl (cI, 10, .inl ne)), (mp, .inl (cI, 10, .inl pr)), (mu, .inl (cI, 9, .inl ow)), (ml, .inl (cI, 9, .inl pl))]) [(mo, .inr (7, moV (nI nn) (nI mm) me mj mw mp mu (zb (ke = true)) bd ml (nI sq) mq xm.1 xm.2.1 xm.2.2.1 xm.2.2.2.1 (zb (xm.2.2.2.2.1 = true)) xm.2.2.2.2.2 m1 m2 m3 m4 lk (zb (sp = true)) bs bo m5 m6 m7 su sl m8 lo sh)), (mj, .inl (cI, 10, .inl ne)), (mp, .inl (cI, 10, .inl pr)), (mu, .inl (cI, 9, .inl ow)), (ml, .inl (cI, 9, .inl pl))]) 0 0 (mA [(mo, .inr (7, moV (nI nn) (nI mm) me mj mw mp mu (zb (ke = true)) bd ml (nI sq) mq xm.1 xm.2.1 xm.2.2.1 xm.2.2.2.1 (zb (xm.2.2.2.2.1 = true)) xm.2.2.2.2.2 m1 m2 m3 m4 lk (zb (sp = true)) bs bo m5 m6 m7 su sl m8 lo sh)), (mj, .inl (cI, 10, .inl ne)), (mp, .inl (cI, 10, .inl pr)), (mu, .inl (cI, 9, .inl ow)), (ml, .inl (cI, 9, .inl pl))]) := by
  refine startM (cc := cX7_playTo) (maxL := 5) (ret := none) (by decide) rfl (Nat.le_of_ble_eq_true rfl) ?_
  intro p e s m args below meth c ls Q A hA hQ hx hb hr hlocks hml hown hts hK hN hP hD hl hin
  have hown : s.vm.findClass RX7 = some m.cls := hown
  have hi_7 : ∀ w ∈ wsX70, w ∈ wsX7_playTo := by decide +kernel
  have hf_32 := hts (.fieldLink RX7 32 "FireNetsModel" "plan" "[I") (by decide +kernel)
  have hf_127 := hts (.fieldLink RX7 127 "FireNetsModel" "isBad" "Z") (by decide +kernel)
  have hf_130 := hts (.fieldLink RX7 130 "FireNetsModel" "overAt" "I") (by decide +kernel)
  have hS : va_S A s.heap s.heap [] := va_S.rf
  have hl : lv_has ls 5 [(0, .ref mo), (1, .int fire), (2, .int (nI la))] := hl
  have hP : va_P D vwCl [(mo, .inr (7, moV (nI nn) (nI mm) me mj mw mp mu (zb (ke = true)) bd ml (nI sq) mq xm.1 xm.2.1 xm.2.2.1 xm.2.2.2.1 (zb (xm.2.2.2.2.1 = true)) xm.2.2.2.2.2 m1 m2 m3 m4 lk (zb (sp = true)) bs bo m5 m6 m7 su sl m8 lo sh)), (mj, .inl (cI, 10, .inl ne)), (mp, .inl (cI, 10, .inl pr)), (mu, .inl (cI, 9, .inl ow)), (ml, .inl (cI, 9, .inl pl))] s.heap := hP
  subst hy
  refine lv_aload_n hx hb dX7_playTo_0 rfl (lv_at hl 0 rfl) ?_
  refine lv_iload_n hx hb dX7_playTo_1 rfl (lv_at hl 1 rfl) ?_
  refine goMV hP hD hS (va_runV (As := [.int fire]) (rest := []) ⟨hx, hb, hml, hown, hts⟩ (kX7_light l D cI cJ mo nn mm me mj mw mp mu ke bd ml sq mq xm.1 xm.2.1 xm.2.2.1 xm.2.2.2.1 xm.2.2.2.2.1 xm.2.2.2.2.2 m1 m2 m3 m4 lk sp bs bo m5 m6 m7 su sl m8 lo sh fire) (cwV 1 hts gX7_playTo_X7_light rfl rfl rfl kdX7_light ⟨Nat.le_of_ble_eq_true rfl, Nat.le_of_ble_eq_true rfl⟩) (preMV hK hN hP hD 0 (ci := 7) rfl rfl rfl [0] rfl (by decide)) rfl rfl hl.1 rfl (lv_room (Nat.le_of_ble_eq_true rfl)) dX7_playTo_2 ⟨Nat.zero_le _, Nat.zero_le _⟩) [0] rfl (by decide) (fun _ => (show ([mo] : List Nat) = [mo] from rfl)) (fun _ H locs hp_2 hP hD hS => ?_)
  have hP : va_P D vwCl [(mo, .inr (7, moV (nI nn) (nI mm) me mj mw mp mu (zb (ke = true)) bd ml (nI sq) mq fire 0 0 0 (zb (xm.2.2.2.2.1 = true)) xm.2.2.2.2.2 m1 m2 m3 m4 lk (zb (sp = true)) bs bo m5 m6 m7 su sl m8 lo sh)), (mj, .inl (cI, 10, .inl ne)), (mp, .inl (cI, 10, .inl pr)), (mu, .inl (cI, 9, .inl ow)), (ml, .inl (cI, 9, .inl pl))] H := hP
  have hD : va_D A [(mo, .inr (7, moV (nI nn) (nI mm) me mj mw mp mu (zb (ke = true)) bd ml (nI sq) mq fire 0 0 0 (zb (xm.2.2.2.2.1 = true)) xm.2.2.2.2.2 m1 m2 m3 m4 lk (zb (sp = true)) bs bo m5 m6 m7 su sl m8 lo sh)), (mj, .inl (cI, 10, .inl ne)), (mp, .inl (cI, 10, .inl pr)), (mu, .inl (cI, 9, .inl ow)), (ml, .inl (cI, 9, .inl pl))] := hD
  refine lv_aload_n hx hb dX7_playTo_5 rfl (lv_at hl 0 rfl) ?_
  refine lv_iconst (v := 0) hx hb dX7_playTo_6 (by decide) ?_
  refine va_put (D := D) (ci := 7) (v := .int 0) (ty := .boolean) (C := RX7) (T := TX7) (N := 34) hx hb hts hi_7 tyX7 tyX7_ok nmX7 hown hK hP hD hS 0 rfl rfl 16 (by decide) hf_127 (fun _ h9 => h9) rfl (by decide +kernel) rfl rfl (Nat.le_of_ble_eq_true rfl) dX7_playTo_7 (fun H locs hP hD hS => ?_)
  have hP : va_P D vwCl [(mo, .inr (7, moV (nI nn) (nI mm) me mj mw mp mu (zb (ke = true)) bd ml (nI sq) mq fire 0 0 0 0 xm.2.2.2.2.2 m1 m2 m3 m4 lk (zb (sp = true)) bs bo m5 m6 m7 su sl m8 lo sh)), (mj, .inl (cI, 10, .inl ne)), (mp, .inl (cI, 10, .inl pr)), (mu, .inl (cI, 9, .inl ow)), (ml, .inl (cI, 9, .inl pl))] H := hP
  have hD : va_D A [(mo, .inr (7, moV (nI nn) (nI mm) me mj mw mp mu (zb (ke = true)) bd ml (nI sq) mq fire 0 0 0 0 xm.2.2.2.2.2 m1 m2 m3 m4 lk (zb (sp = true)) bs bo m5 m6 m7 su sl m8 lo sh)), (mj, .inl (cI, 10, .inl ne)), (mp, .inl (cI, 10, .inl pr)), (mu, .inl (cI, 9, .inl ow)), (ml, .inl (cI, 9, .inl pl))] := hD
  refine lv_aload_n hx hb dX7_playTo_10 rfl (lv_at hl 0 rfl) ?_
  refine lv_iconst (v := 0) hx hb dX7_playTo_11 (by decide) ?_
  refine va_put (D := D) (ci := 7) (v := .int 0) (ty := .int) (C := RX7) (T := TX7) (N := 34) hx hb hts hi_7 tyX7 tyX7_ok nmX7 hown hK hP hD hS 0 rfl rfl 17 (by decide) hf_130 (fun _ h9 => h9) rfl (by decide +kernel) rfl rfl (Nat.le_of_ble_eq_true rfl) dX7_playTo_12 (fun H locs hP hD hS => ?_)
  have hP : va_P D vwCl [(mo, .inr (7, moV (nI nn) (nI mm) me mj mw mp mu (zb (ke = true)) bd ml (nI sq) mq fire 0 0 0 0 0 m1 m2 m3 m4 lk (zb (sp = true)) bs bo m5 m6 m7 su sl m8 lo sh)), (mj, .inl (cI, 10, .inl ne)), (mp, .inl (cI, 10, .inl pr)), (mu, .inl (cI, 9, .inl ow)), (ml, .inl (cI, 9, .inl pl))] H := hP
  have hD : va_D A [(mo, .inr (7, moV (nI nn) (nI mm) me mj mw mp mu (zb (ke = true)) bd ml (nI sq) mq fire 0 0 0 0 0 m1 m2 m3 m4 lk (zb (sp = true)) bs bo m5 m6 m7 su sl m8 lo sh)), (mj, .inl (cI, 10, .inl ne)), (mp, .inl (cI, 10, .inl pr)), (mu, .inl (cI, 9, .inl ow)), (ml, .inl (cI, 9, .inl pl))] := hD
  refine lv_iconst (v := 1) hx hb dX7_playTo_15 (by decide) ?_
  refine lv_istore_n (lv' := [(3, .int 1), (0, .ref mo), (1, .int fire), (2, .int (nI la))]) hx hb dX7_playTo_16 rfl hl (by decide) rfl (fun ls hl => ?_)
  have lp : ∀ (fu : Nat) (k : Nat), (k ≤ la) → la - k < fu → ∀ (ls : Array Slot) (H : Heap) (locs : List Loc), lv_has ls 5 [(0, .ref mo), (1, .int fire), (2, .int (nI la)), (3, .int (nI (k + 1)))] → va_P D vwCl [(mo, .inr (7, moV (nI nn) (nI mm) me mj mw mp mu (zb (ke = true)) bd ml (nI sq) mq ((playA nn pr ne ow pl ke fire k).1) ((playA nn pr ne ow pl ke fire k).2.1) ((playA nn pr ne ow pl ke fire k).2.2.1) ((playA nn pr ne ow pl ke fire k).2.2.2.1) (zb ((playA nn pr ne ow pl ke fire k).2.2.2.2.1 = true)) ((playA nn pr ne ow pl ke fire k).2.2.2.2.2) m1 m2 m3 m4 lk (zb (sp = true)) bs bo m5 m6 m7 su sl m8 lo sh)), (mj, .inl (cI, 10, .inl ne)), (mp, .inl (cI, 10, .inl pr)), (mu, .inl (cI, 9, .inl ow)), (ml, .inl (cI, 9, .inl pl))] H → va_D A [(mo, .inr (7, moV (nI nn) (nI mm) me mj mw mp mu (zb (ke = true)) bd ml (nI sq) mq ((playA nn pr ne ow pl ke fire k).1) ((playA nn pr ne ow pl ke fire k).2.1) ((playA nn pr ne ow pl ke fire k).2.2.1) ((playA nn pr ne ow pl ke fire k).2.2.2.1) (zb ((playA nn pr ne ow pl ke fire k).2.2.2.2.1 = true)) ((playA nn pr ne ow pl ke fire k).2.2.2.2.2) m1 m2 m3 m4 lk (zb (sp = true)) bs bo m5 m6 m7 su sl m8 lo sh)), (mj, .inl (cI, 10, .inl ne)), (mp, .inl (cI, 10, .inl pr)), (mu, .inl (cI, 9, .inl ow)), (ml, .inl (cI, 9, .inl pl))] → va_S A s.heap H locs → W p l e rmX7_playTo s m args below meth c H locs 0 0 Q (F0 m 17 ls []) := by
    intro fu
    induction fu with
    | zero => intro k hk hf; exact absurd hf (Nat.not_lt_zero _)
    | succ fu ih_lp =>
      intro k hk hf ls H locs hl hP hD hS
      refine lv_iload_n hx hb dX7_playTo_17 rfl (lv_at hl 3 rfl) ?_
      refine lv_iload_n hx hb dX7_playTo_18 rfl (lv_at hl 2 rfl) ?_
      refine r_icmp_gt (tgt := 113) hx hb (k + 1) la dX7_playTo_19 (by decide) rfl rfl (by omega) (by omega) (fun c_19 => ?_) (fun c_19 => ?_)
      · exact endMV () hx hb hr hlocks hA hQ hS hP dX7_playTo_113 (by rw [show k = la by omega]) trivial
      · refine lv_aload_n hx hb dX7_playTo_22 rfl (lv_at hl 0 rfl) ?_
        refine va_get (D := D) (ci := 7) (v := .int ((playA nn pr ne ow pl ke fire k).2.2.2.2.2)) (C := RX7) (T := TX7) (N := 34) hx hb hts hi_7 hown hK hP 0 rfl rfl 17 (by decide) hf_130 (fun _ h9 => h9) rfl dX7_playTo_23 ?_
        refine lv_if_ne (tgt := 113) hx hb dX7_playTo_26 (by decide) (fun c_26 => ?_) (fun c_26 => ?_)
        · exact endMV () hx hb hr hlocks hA hQ hS hP dX7_playTo_113 (by rw [show la = k + (la - k) by omega, playA_stop c_26]) trivial
        · refine lv_aload_n hx hb dX7_playTo_29 rfl (lv_at hl 0 rfl) ?_
          refine lv_iload_n hx hb dX7_playTo_30 rfl (lv_at hl 3 rfl) ?_
          refine goMV hP hD hS (va_runV (As := [.int (nI (k + 1))]) (rest := []) ⟨hx, hb, hml, hown, hts⟩ (kX7_fill l D cI cJ mo nn mm me mj mw mp mu ke bd ml sq mq ((playA nn pr ne ow pl ke fire k).1) ((playA nn pr ne ow pl ke fire k).2.1) ((playA nn pr ne ow pl ke fire k).2.2.1) ((playA nn pr ne ow pl ke fire k).2.2.2.1) ((playA nn pr ne ow pl ke fire k).2.2.2.2.1) ((playA nn pr ne ow pl ke fire k).2.2.2.2.2) m1 m2 m3 m4 lk sp bs bo m5 m6 m7 su sl m8 lo sh ow (k + 1) (by omega)) (cwV 1 hts gX7_playTo_X7_fill rfl rfl rfl kdX7_fill ⟨Nat.le_of_ble_eq_true rfl, Nat.le_of_ble_eq_true rfl⟩) (preMV hK hN hP hD 0 (ci := 7) rfl rfl rfl [0, 3] rfl (by decide)) rfl rfl hl.1 rfl (lv_room (Nat.le_of_ble_eq_true rfl)) dX7_playTo_31 ⟨Nat.zero_le _, Nat.zero_le _⟩) [0, 3] rfl (by decide) (fun _ => (show ([mo, mu] : List Nat) = [mo, mu] from rfl)) (fun _ H locs hp_31 hP hD hS => ?_)
          have hP : va_P D vwCl [(mo, .inr (7, moV (nI nn) (nI mm) me mj mw mp mu (zb (ke = true)) bd ml (nI sq) mq ((playA nn pr ne ow pl ke fire k).1) ((playA nn pr ne ow pl ke fire k).2.1) (fillM ow ke (k + 1) ((playA nn pr ne ow pl ke fire k).2.2.1)) ((playA nn pr ne ow pl ke fire k).2.2.2.1) (zb (((playA nn pr ne ow pl ke fire k).2.2.2.2.1) = true)) ((playA nn pr ne ow pl ke fire k).2.2.2.2.2) m1 m2 m3 m4 lk (zb (sp = true)) bs bo m5 m6 m7 su sl m8 lo sh)), (mj, .inl (cI, 10, .inl ne)), (mp, .inl (cI, 10, .inl pr)), (mu, .inl (cI, 9, .inl ow)), (ml, .inl (cI, 9, .inl pl))] H := hP
          have hD : va_D A [(mo, .inr (7, moV (nI nn) (nI mm) me mj mw mp mu (zb (ke = true)) bd ml (nI sq) mq ((playA nn pr ne ow pl ke fire k).1) ((playA nn pr ne ow pl ke fire k).2.1) (fillM ow ke (k + 1) ((playA nn pr ne ow pl ke fire k).2.2.1)) ((playA nn pr ne ow pl ke fire k).2.2.2.1) (zb (((playA nn pr ne ow pl ke fire k).2.2.2.2.1) = true)) ((playA nn pr ne ow pl ke fire k).2.2.2.2.2) m1 m2 m3 m4 lk (zb (sp = true)) bs bo m5 m6 m7 su sl m8 lo sh)), (mj, .inl (cI, 10, .inl ne)), (mp, .inl (cI, 10, .inl pr)), (mu, .inl (cI, 9, .inl ow)), (ml, .inl (cI, 9, .inl pl))] := hD
          refine lv_iload_n hx hb dX7_playTo_34 rfl (lv_at hl 3 rfl) ?_
          refine lv_bipush (v := 8) hx hb dX7_playTo_35 (by decide) ?_
          refine r_icmp_gt (tgt := 49) hx hb (k + 1) 8 dX7_playTo_37 (by decide) rfl rfl (by omega) (by omega) (fun c_37 => ?_) (fun c_37 => ?_)
          · refine lv_iconst (v := 0) hx hb dX7_playTo_49 (by decide) ?_
            refine lv_istore (lv' := [(4, .int 0), (0, .ref mo), (1, .int fire), (2, .int (nI la)), (3, .int (nI (k + 1)))]) hx hb dX7_playTo_50 hl (by decide) rfl (fun ls hl => ?_)
            refine lv_aload_n hx hb dX7_playTo_52 rfl (lv_at hl 1 rfl) ?_
            refine lv_aload_n hx hb dX7_playTo_53 rfl (lv_at hl 1 rfl) ?_
            refine lv_iload hx hb dX7_playTo_54 (lv_at hl 0 rfl) ?_
            refine goRI hP hS (va_runV (As := [.int 0]) (rest := [.ref mo]) ⟨hx, hb, hml, hown, hts⟩ (kX7_isLawful l D cI cJ mo nn mm me mj mw mp mu ke bd ml sq mq ((playA nn pr ne ow pl ke fire k).1) ((playA nn pr ne ow pl ke fire k).2.1) (fillM ow ke (k + 1) ((playA nn pr ne ow pl ke fire k).2.2.1)) ((playA nn pr ne ow pl ke fire k).2.2.2.1) ((playA nn pr ne ow pl ke fire k).2.2.2.2.1) ((playA nn pr ne ow pl ke fire k).2.2.2.2.2) m1 m2 m3 m4 lk sp bs bo m5 m6 m7 su sl m8 lo sh pr 0 (by omega)) (cwV 1 hts gX7_playTo_X7_isLawful rfl rfl rfl kdX7_isLawful ⟨Nat.le_of_ble_eq_true rfl, Nat.le_of_ble_eq_true rfl⟩) (preRV hK hN hP 0 (ci := 7) rfl rfl rfl [0, 2] rfl) rfl rfl hl.1 rfl (lv_room (Nat.le_of_ble_eq_true rfl)) dX7_playTo_56 ⟨Nat.zero_le _, Nat.zero_le _⟩) (fun H locs hP hS => ?_)
            refine r_zne (tgt := 66) hx hb dX7_playTo_59 (by decide) (fun c_59 => ?_) (fun c_59 => ?_)
            · refine lv_iconst (v := 0) hx hb dX7_playTo_66 (by decide) ?_
              refine va_put (D := D) (ci := 7) (v := .int 0) (ty := .boolean) (C := RX7) (T := TX7) (N := 34) hx hb hts hi_7 tyX7 tyX7_ok nmX7 hown hK hP hD hS 0 rfl rfl 16 (by decide) hf_127 (fun _ h9 => h9) rfl (by decide +kernel) rfl rfl (Nat.le_of_ble_eq_true rfl) dX7_playTo_67 (fun H locs hP hD hS => ?_)
              have hP : va_P D vwCl [(mo, .inr (7, moV (nI nn) (nI mm) me mj mw mp mu (zb (ke = true)) bd ml (nI sq) mq ((playA nn pr ne ow pl ke fire k).1) ((playA nn pr ne ow pl ke fire k).2.1) (fillM ow ke (k + 1) ((playA nn pr ne ow pl ke fire k).2.2.1)) ((playA nn pr ne ow pl ke fire k).2.2.2.1) 0 ((playA nn pr ne ow pl ke fire k).2.2.2.2.2) m1 m2 m3 m4 lk (zb (sp = true)) bs bo m5 m6 m7 su sl m8 lo sh)), (mj, .inl (cI, 10, .inl ne)), (mp, .inl (cI, 10, .inl pr)), (mu, .inl (cI, 9, .inl ow)), (ml, .inl (cI, 9, .inl pl))] H := hP
              have hD : va_D A [(mo, .inr (7, moV (nI nn) (nI mm) me mj mw mp mu (zb (ke = true)) bd ml (nI sq) mq ((playA nn pr ne ow pl ke fire k).1) ((playA nn pr ne ow pl ke fire k).2.1) (fillM ow ke (k + 1) ((playA nn pr ne ow pl ke fire k).2.2.1)) ((playA nn pr ne ow pl ke fire k).2.2.2.1) 0 ((playA nn pr ne ow pl ke fire k).2.2.2.2.2) m1 m2 m3 m4 lk (zb (sp = true)) bs bo m5 m6 m7 su sl m8 lo sh)), (mj, .inl (cI, 10, .inl ne)), (mp, .inl (cI, 10, .inl pr)), (mu, .inl (cI, 9, .inl ow)), (ml, .inl (cI, 9, .inl pl))] := hD
              refine lv_aload_n hx hb dX7_playTo_70 rfl (lv_at hl 1 rfl) ?_
              refine va_get (D := D) (ci := 7) (v := .int 0) (C := RX7) (T := TX7) (N := 34) hx hb hts hi_7 hown hK hP 0 rfl rfl 16 (by decide) hf_127 (fun _ h9 => h9) rfl dX7_playTo_71 ?_
              refine lv_if_eq (tgt := 85) hx hb dX7_playTo_74 (by decide) (fun c_74 => ?_) (fun c_74 => ?_)
              · refine lv_aload_n hx hb dX7_playTo_85 rfl (lv_at hl 1 rfl) ?_
                refine lv_iload hx hb dX7_playTo_86 (lv_at hl 0 rfl) ?_
                refine goMV hP hD hS (va_runV (As := [.int 0]) (rest := []) ⟨hx, hb, hml, hown, hts⟩ (kX7_guard l D cI cJ mo nn mm me mj mw mp mu ke bd ml sq mq ((playA nn pr ne ow pl ke fire k).1) ((playA nn pr ne ow pl ke fire k).2.1) (fillM ow ke (k + 1) ((playA nn pr ne ow pl ke fire k).2.2.1)) ((playA nn pr ne ow pl ke fire k).2.2.2.1) false ((playA nn pr ne ow pl ke fire k).2.2.2.2.2) m1 m2 m3 m4 lk sp bs bo m5 m6 m7 su sl m8 lo sh pr 0 (by omega)) (cwV 1 hts gX7_playTo_X7_guard rfl rfl rfl kdX7_guard ⟨Nat.le_of_ble_eq_true rfl, Nat.le_of_ble_eq_true rfl⟩) (preMV hK hN hP hD 0 (ci := 7) rfl rfl rfl [0, 2] rfl (by decide)) rfl rfl hl.1 rfl (lv_room (Nat.le_of_ble_eq_true rfl)) dX7_playTo_88 ⟨Nat.zero_le _, Nat.zero_le _⟩) [0, 2] rfl (by decide) (fun _ => (show ([mo, mp] : List Nat) = [mo, mp] from rfl)) (fun _ H locs hp_88 hP hD hS => ?_)
                have hP : va_P D vwCl [(mo, .inr (7, moV (nI nn) (nI mm) me mj mw mp mu (zb (ke = true)) bd ml (nI sq) mq ((playA nn pr ne ow pl ke fire k).1) (((playA nn pr ne ow pl ke fire k).2.1) ||| 0) ((fillM ow ke (k + 1) ((playA nn pr ne ow pl ke fire k).2.2.1)) - sumM pr 0 nn) (((playA nn pr ne ow pl ke fire k).2.2.2.1) + sumM pr 0 nn) (zb (false = true)) ((playA nn pr ne ow pl ke fire k).2.2.2.2.2) m1 m2 m3 m4 lk (zb (sp = true)) bs bo m5 m6 m7 su sl m8 lo sh)), (mj, .inl (cI, 10, .inl ne)), (mp, .inl (cI, 10, .inl pr)), (mu, .inl (cI, 9, .inl ow)), (ml, .inl (cI, 9, .inl pl))] H := hP
                have hD : va_D A [(mo, .inr (7, moV (nI nn) (nI mm) me mj mw mp mu (zb (ke = true)) bd ml (nI sq) mq ((playA nn pr ne ow pl ke fire k).1) (((playA nn pr ne ow pl ke fire k).2.1) ||| 0) ((fillM ow ke (k + 1) ((playA nn pr ne ow pl ke fire k).2.2.1)) - sumM pr 0 nn) (((playA nn pr ne ow pl ke fire k).2.2.2.1) + sumM pr 0 nn) (zb (false = true)) ((playA nn pr ne ow pl ke fire k).2.2.2.2.2) m1 m2 m3 m4 lk (zb (sp = true)) bs bo m5 m6 m7 su sl m8 lo sh)), (mj, .inl (cI, 10, .inl ne)), (mp, .inl (cI, 10, .inl pr)), (mu, .inl (cI, 9, .inl ow)), (ml, .inl (cI, 9, .inl pl))] := hD
                refine lv_aload_n hx hb dX7_playTo_91 rfl (lv_at hl 1 rfl) ?_
                refine lv_aload_n hx hb dX7_playTo_92 rfl (lv_at hl 1 rfl) ?_
                refine goMI hP hD hS (va_runV (As := []) (rest := [.ref mo]) ⟨hx, hb, hml, hown, hts⟩ (kX7_spreads l D cI cJ mo nn mm me mj mw mp mu ke bd ml sq mq ((playA nn pr ne ow pl ke fire k).1) (((playA nn pr ne ow pl ke fire k).2.1) ||| 0) ((fillM ow ke (k + 1) ((playA nn pr ne ow pl ke fire k).2.2.1)) - sumM pr 0 nn) (((playA nn pr ne ow pl ke fire k).2.2.2.1) + sumM pr 0 nn) false ((playA nn pr ne ow pl ke fire k).2.2.2.2.2) m1 m2 m3 m4 lk sp bs bo m5 m6 m7 su sl m8 lo sh ne (by omega)) (cwV 0 hts gX7_playTo_X7_spreads rfl rfl rfl kdX7_spreads ⟨Nat.le_of_ble_eq_true rfl, Nat.le_of_ble_eq_true rfl⟩) (preMV hK hN hP hD 0 (ci := 7) rfl rfl rfl [0, 1] rfl (by decide)) rfl rfl hl.1 rfl (lv_room (Nat.le_of_ble_eq_true rfl)) dX7_playTo_93 ⟨Nat.zero_le _, Nat.zero_le _⟩) [0, 1] rfl (by decide) (fun _ => (show ([mo, mj] : List Nat) = [mo, mj] from rfl)) (fun r_93 _ H locs hp_93 hP hD hS => ?_)
                have hP : va_P D vwCl [(mo, .inr (7, moV (nI nn) (nI mm) me mj mw mp mu (zb (ke = true)) bd ml (nI sq) mq (((playA nn pr ne ow pl ke fire k).1) ||| nearM nn ne ((playA nn pr ne ow pl ke fire k).1) (((playA nn pr ne ow pl ke fire k).2.1) ||| 0)) (((playA nn pr ne ow pl ke fire k).2.1) ||| 0) ((fillM ow ke (k + 1) ((playA nn pr ne ow pl ke fire k).2.2.1)) - sumM pr 0 nn) (((playA nn pr ne ow pl ke fire k).2.2.2.1) + sumM pr 0 nn) (zb (false = true)) ((playA nn pr ne ow pl ke fire k).2.2.2.2.2) m1 m2 m3 m4 lk (zb (sp = true)) bs bo m5 m6 m7 su sl m8 lo sh)), (mj, .inl (cI, 10, .inl ne)), (mp, .inl (cI, 10, .inl pr)), (mu, .inl (cI, 9, .inl ow)), (ml, .inl (cI, 9, .inl pl))] H := hP
                have hD : va_D A [(mo, .inr (7, moV (nI nn) (nI mm) me mj mw mp mu (zb (ke = true)) bd ml (nI sq) mq (((playA nn pr ne ow pl ke fire k).1) ||| nearM nn ne ((playA nn pr ne ow pl ke fire k).1) (((playA nn pr ne ow pl ke fire k).2.1) ||| 0)) (((playA nn pr ne ow pl ke fire k).2.1) ||| 0) ((fillM ow ke (k + 1) ((playA nn pr ne ow pl ke fire k).2.2.1)) - sumM pr 0 nn) (((playA nn pr ne ow pl ke fire k).2.2.2.1) + sumM pr 0 nn) (zb (false = true)) ((playA nn pr ne ow pl ke fire k).2.2.2.2.2) m1 m2 m3 m4 lk (zb (sp = true)) bs bo m5 m6 m7 su sl m8 lo sh)), (mj, .inl (cI, 10, .inl ne)), (mp, .inl (cI, 10, .inl pr)), (mu, .inl (cI, 9, .inl ow)), (ml, .inl (cI, 9, .inl pl))] := hD
                obtain rfl := hp_93
                refine r_zeq (tgt := 103) hx hb dX7_playTo_96 (by decide) (fun c_96 => ?_) (fun c_96 => ?_)
                · refine lv_iload_n hx hb dX7_playTo_103 rfl (lv_at hl 4 rfl) ?_
                  refine va_put (D := D) (ci := 7) (v := .int (nI (k + 1))) (ty := .int) (C := RX7) (T := TX7) (N := 34) hx hb hts hi_7 tyX7 tyX7_ok nmX7 hown hK hP hD hS 0 rfl rfl 17 (by decide) hf_130 (fun _ h9 => h9) rfl (by decide +kernel) rfl rfl (Nat.le_of_ble_eq_true rfl) dX7_playTo_104 (fun H locs hP hD hS => ?_)
                  have hP : va_P D vwCl [(mo, .inr (7, moV (nI nn) (nI mm) me mj mw mp mu (zb (ke = true)) bd ml (nI sq) mq (((playA nn pr ne ow pl ke fire k).1) ||| nearM nn ne ((playA nn pr ne ow pl ke fire k).1) (((playA nn pr ne ow pl ke fire k).2.1) ||| 0)) (((playA nn pr ne ow pl ke fire k).2.1) ||| 0) ((fillM ow ke (k + 1) ((playA nn pr ne ow pl ke fire k).2.2.1)) - sumM pr 0 nn) (((playA nn pr ne ow pl ke fire k).2.2.2.1) + sumM pr 0 nn) (zb (false = true)) (nI (k + 1)) m1 m2 m3 m4 lk (zb (sp = true)) bs bo m5 m6 m7 su sl m8 lo sh)), (mj, .inl (cI, 10, .inl ne)), (mp, .inl (cI, 10, .inl pr)), (mu, .inl (cI, 9, .inl ow)), (ml, .inl (cI, 9, .inl pl))] H := hP
                  have hD : va_D A [(mo, .inr (7, moV (nI nn) (nI mm) me mj mw mp mu (zb (ke = true)) bd ml (nI sq) mq (((playA nn pr ne ow pl ke fire k).1) ||| nearM nn ne ((playA nn pr ne ow pl ke fire k).1) (((playA nn pr ne ow pl ke fire k).2.1) ||| 0)) (((playA nn pr ne ow pl ke fire k).2.1) ||| 0) ((fillM ow ke (k + 1) ((playA nn pr ne ow pl ke fire k).2.2.1)) - sumM pr 0 nn) (((playA nn pr ne ow pl ke fire k).2.2.2.1) + sumM pr 0 nn) (zb (false = true)) (nI (k + 1)) m1 m2 m3 m4 lk (zb (sp = true)) bs bo m5 m6 m7 su sl m8 lo sh)), (mj, .inl (cI, 10, .inl ne)), (mp, .inl (cI, 10, .inl pr)), (mu, .inl (cI, 9, .inl ow)), (ml, .inl (cI, 9, .inl pl))] := hD
                  refine r_iinc (lv' := [(3, .int (nI ((k + 1) + 1))), (4, .int 0), (0, .ref mo), (1, .int fire), (2, .int (nI la))]) hx hb 4 (k + 1) dX7_playTo_107 hl rfl (by decide) rfl (fun ls hl => ?_)
                  refine lv_goto (tgt := 17) hx hb dX7_playTo_110 (by decide) ?_
                  exact ih_lp (k + 1) (by omega) (by omega) ls _ _ (lv_sub hl [2, 3, 4, 0] rfl) (by rw [playA, if_pos c_26, playS, if_neg (by omega), playS2, if_pos c_59, if_neg c_96]; exact hP) (by rw [playA, if_pos c_26, playS, if_neg (by omega), playS2, if_pos c_59, if_neg c_96]; exact hD) hS
                · refine lv_iconst (v := 0) hx hb dX7_playTo_99 (by decide) ?_
                  refine lv_goto (tgt := 104) hx hb dX7_playTo_100 (by decide) ?_
                  refine va_put (D := D) (ci := 7) (v := .int 0) (ty := .int) (C := RX7) (T := TX7) (N := 34) hx hb hts hi_7 tyX7 tyX7_ok nmX7 hown hK hP hD hS 0 rfl rfl 17 (by decide) hf_130 (fun _ h9 => h9) rfl (by decide +kernel) rfl rfl (Nat.le_of_ble_eq_true rfl) dX7_playTo_104 (fun H locs hP hD hS => ?_)
                  have hP : va_P D vwCl [(mo, .inr (7, moV (nI nn) (nI mm) me mj mw mp mu (zb (ke = true)) bd ml (nI sq) mq (((playA nn pr ne ow pl ke fire k).1) ||| nearM nn ne ((playA nn pr ne ow pl ke fire k).1) (((playA nn pr ne ow pl ke fire k).2.1) ||| 0)) (((playA nn pr ne ow pl ke fire k).2.1) ||| 0) ((fillM ow ke (k + 1) ((playA nn pr ne ow pl ke fire k).2.2.1)) - sumM pr 0 nn) (((playA nn pr ne ow pl ke fire k).2.2.2.1) + sumM pr 0 nn) (zb (false = true)) 0 m1 m2 m3 m4 lk (zb (sp = true)) bs bo m5 m6 m7 su sl m8 lo sh)), (mj, .inl (cI, 10, .inl ne)), (mp, .inl (cI, 10, .inl pr)), (mu, .inl (cI, 9, .inl ow)), (ml, .inl (cI, 9, .inl pl))] H := hP
                  have hD : va_D A [(mo, .inr (7, moV (nI nn) (nI mm) me mj mw mp mu (zb (ke = true)) bd ml (nI sq) mq (((playA nn pr ne ow pl ke fire k).1) ||| nearM nn ne ((playA nn pr ne ow pl ke fire k).1) (((playA nn pr ne ow pl ke fire k).2.1) ||| 0)) (((playA nn pr ne ow pl ke fire k).2.1) ||| 0) ((fillM ow ke (k + 1) ((playA nn pr ne ow pl ke fire k).2.2.1)) - sumM pr 0 nn) (((playA nn pr ne ow pl ke fire k).2.2.2.1) + sumM pr 0 nn) (zb (false = true)) 0 m1 m2 m3 m4 lk (zb (sp = true)) bs bo m5 m6 m7 su sl m8 lo sh)), (mj, .inl (cI, 10, .inl ne)), (mp, .inl (cI, 10, .inl pr)), (mu, .inl (cI, 9, .inl ow)), (ml, .inl (cI, 9, .inl pl))] := hD
                  refine r_iinc (lv' := [(3, .int (nI ((k + 1) + 1))), (4, .int 0), (0, .ref mo), (1, .int fire), (2, .int (nI la))]) hx hb 4 (k + 1) dX7_playTo_107 hl rfl (by decide) rfl (fun ls hl => ?_)
                  refine lv_goto (tgt := 17) hx hb dX7_playTo_110 (by decide) ?_
                  exact ih_lp (k + 1) (by omega) (by omega) ls _ _ (lv_sub hl [2, 3, 4, 0] rfl) (by rw [playA, if_pos c_26, playS, if_neg (by omega), playS2, if_pos c_59, if_pos c_96]; exact hP) (by rw [playA, if_pos c_26, playS, if_neg (by omega), playS2, if_pos c_59, if_pos c_96]; exact hD) hS
              · exact absurd rfl c_74
            · refine lv_iconst (v := 1) hx hb dX7_playTo_62 (by decide) ?_
              refine lv_goto (tgt := 67) hx hb dX7_playTo_63 (by decide) ?_
              refine va_put (D := D) (ci := 7) (v := .int 1) (ty := .boolean) (C := RX7) (T := TX7) (N := 34) hx hb hts hi_7 tyX7 tyX7_ok nmX7 hown hK hP hD hS 0 rfl rfl 16 (by decide) hf_127 (fun _ h9 => h9) rfl (by decide +kernel) rfl rfl (Nat.le_of_ble_eq_true rfl) dX7_playTo_67 (fun H locs hP hD hS => ?_)
              have hP : va_P D vwCl [(mo, .inr (7, moV (nI nn) (nI mm) me mj mw mp mu (zb (ke = true)) bd ml (nI sq) mq ((playA nn pr ne ow pl ke fire k).1) ((playA nn pr ne ow pl ke fire k).2.1) (fillM ow ke (k + 1) ((playA nn pr ne ow pl ke fire k).2.2.1)) ((playA nn pr ne ow pl ke fire k).2.2.2.1) 1 ((playA nn pr ne ow pl ke fire k).2.2.2.2.2) m1 m2 m3 m4 lk (zb (sp = true)) bs bo m5 m6 m7 su sl m8 lo sh)), (mj, .inl (cI, 10, .inl ne)), (mp, .inl (cI, 10, .inl pr)), (mu, .inl (cI, 9, .inl ow)), (ml, .inl (cI, 9, .inl pl))] H := hP
              have hD : va_D A [(mo, .inr (7, moV (nI nn) (nI mm) me mj mw mp mu (zb (ke = true)) bd ml (nI sq) mq ((playA nn pr ne ow pl ke fire k).1) ((playA nn pr ne ow pl ke fire k).2.1) (fillM ow ke (k + 1) ((playA nn pr ne ow pl ke fire k).2.2.1)) ((playA nn pr ne ow pl ke fire k).2.2.2.1) 1 ((playA nn pr ne ow pl ke fire k).2.2.2.2.2) m1 m2 m3 m4 lk (zb (sp = true)) bs bo m5 m6 m7 su sl m8 lo sh)), (mj, .inl (cI, 10, .inl ne)), (mp, .inl (cI, 10, .inl pr)), (mu, .inl (cI, 9, .inl ow)), (ml, .inl (cI, 9, .inl pl))] := hD
              refine lv_aload_n hx hb dX7_playTo_70 rfl (lv_at hl 1 rfl) ?_
              refine va_get (D := D) (ci := 7) (v := .int 1) (C := RX7) (T := TX7) (N := 34) hx hb hts hi_7 hown hK hP 0 rfl rfl 16 (by decide) hf_127 (fun _ h9 => h9) rfl dX7_playTo_71 ?_
              refine lv_if_eq (tgt := 85) hx hb dX7_playTo_74 (by decide) (fun c_74 => ?_) (fun c_74 => ?_)
              · exact absurd c_74 (by decide)
              · refine lv_aload_n hx hb dX7_playTo_77 rfl (lv_at hl 1 rfl) ?_
                refine lv_iload_n hx hb dX7_playTo_78 rfl (lv_at hl 4 rfl) ?_
                refine va_put (D := D) (ci := 7) (v := .int (nI (k + 1))) (ty := .int) (C := RX7) (T := TX7) (N := 34) hx hb hts hi_7 tyX7 tyX7_ok nmX7 hown hK hP hD hS 0 rfl rfl 17 (by decide) hf_130 (fun _ h9 => h9) rfl (by decide +kernel) rfl rfl (Nat.le_of_ble_eq_true rfl) dX7_playTo_79 (fun H locs hP hD hS => ?_)
                have hP : va_P D vwCl [(mo, .inr (7, moV (nI nn) (nI mm) me mj mw mp mu (zb (ke = true)) bd ml (nI sq) mq ((playA nn pr ne ow pl ke fire k).1) ((playA nn pr ne ow pl ke fire k).2.1) (fillM ow ke (k + 1) ((playA nn pr ne ow pl ke fire k).2.2.1)) ((playA nn pr ne ow pl ke fire k).2.2.2.1) 1 (nI (k + 1)) m1 m2 m3 m4 lk (zb (sp = true)) bs bo m5 m6 m7 su sl m8 lo sh)), (mj, .inl (cI, 10, .inl ne)), (mp, .inl (cI, 10, .inl pr)), (mu, .inl (cI, 9, .inl ow)), (ml, .inl (cI, 9, .inl pl))] H := hP
                have hD : va_D A [(mo, .inr (7, moV (nI nn) (nI mm) me mj mw mp mu (zb (ke = true)) bd ml (nI sq) mq ((playA nn pr ne ow pl ke fire k).1) ((playA nn pr ne ow pl ke fire k).2.1) (fillM ow ke (k + 1) ((playA nn pr ne ow pl ke fire k).2.2.1)) ((playA nn pr ne ow pl ke fire k).2.2.2.1) 1 (nI (k + 1)) m1 m2 m3 m4 lk (zb (sp = true)) bs bo m5 m6 m7 su sl m8 lo sh)), (mj, .inl (cI, 10, .inl ne)), (mp, .inl (cI, 10, .inl pr)), (mu, .inl (cI, 9, .inl ow)), (ml, .inl (cI, 9, .inl pl))] := hD
                refine lv_goto (tgt := 107) hx hb dX7_playTo_82 (by decide) ?_
                refine r_iinc (lv' := [(3, .int (nI ((k + 1) + 1))), (4, .int 0), (0, .ref mo), (1, .int fire), (2, .int (nI la))]) hx hb 4 (k + 1) dX7_playTo_107 hl rfl (by decide) rfl (fun ls hl => ?_)
                refine lv_goto (tgt := 17) hx hb dX7_playTo_110 (by decide) ?_
                exact ih_lp (k + 1) (by omega) (by omega) ls _ _ (lv_sub hl [2, 3, 4, 0] rfl) (by rw [playA, if_pos c_26, playS, if_neg (by omega), playS2, if_neg c_59]; exact hP) (by rw [playA, if_pos c_26, playS, if_neg (by omega), playS2, if_neg c_59]; exact hD) hS
          · refine lv_aload_n hx hb dX7_playTo_40 rfl (lv_at hl 0 rfl) ?_
            refine va_get (D := D) (ci := 7) (v := .ref ml) (C := RX7) (T := TX7) (N := 34) hx hb hts hi_7 hown hK hP 0 rfl rfl 9 (by decide) hf_32 (fun _ h9 => h9) rfl dX7_playTo_41 ?_
            refine lv_iload_n hx hb dX7_playTo_44 rfl (lv_at hl 3 rfl) ?_
            refine r_iald hx hb hK hP 4 rfl (k + 1) rfl (by omega) (by omega) dX7_playTo_45 ?_
            refine lv_goto (tgt := 50) hx hb dX7_playTo_46 (by decide) ?_
            refine lv_istore (lv' := [(4, .int (pl (k + 1))), (0, .ref mo), (1, .int fire), (2, .int (nI la)), (3, .int (nI (k + 1)))]) hx hb dX7_playTo_50 hl (by decide) rfl (fun ls hl => ?_)
            refine lv_aload_n hx hb dX7_playTo_52 rfl (lv_at hl 1 rfl) ?_
            refine lv_aload_n hx hb dX7_playTo_53 rfl (lv_at hl 1 rfl) ?_
            refine lv_iload hx hb dX7_playTo_54 (lv_at hl 0 rfl) ?_
            refine goRI hP hS (va_runV (As := [.int (pl (k + 1))]) (rest := [.ref mo]) ⟨hx, hb, hml, hown, hts⟩ (kX7_isLawful l D cI cJ mo nn mm me mj mw mp mu ke bd ml sq mq ((playA nn pr ne ow pl ke fire k).1) ((playA nn pr ne ow pl ke fire k).2.1) (fillM ow ke (k + 1) ((playA nn pr ne ow pl ke fire k).2.2.1)) ((playA nn pr ne ow pl ke fire k).2.2.2.1) ((playA nn pr ne ow pl ke fire k).2.2.2.2.1) ((playA nn pr ne ow pl ke fire k).2.2.2.2.2) m1 m2 m3 m4 lk sp bs bo m5 m6 m7 su sl m8 lo sh pr (pl (k + 1)) (by omega)) (cwV 1 hts gX7_playTo_X7_isLawful rfl rfl rfl kdX7_isLawful ⟨Nat.le_of_ble_eq_true rfl, Nat.le_of_ble_eq_true rfl⟩) (preRV hK hN hP 0 (ci := 7) rfl rfl rfl [0, 2] rfl) rfl rfl hl.1 rfl (lv_room (Nat.le_of_ble_eq_true rfl)) dX7_playTo_56 ⟨Nat.zero_le _, Nat.zero_le _⟩) (fun H locs hP hS => ?_)
            refine r_zne (tgt := 66) hx hb dX7_playTo_59 (by decide) (fun c_59 => ?_) (fun c_59 => ?_)
            · refine lv_iconst (v := 0) hx hb dX7_playTo_66 (by decide) ?_
              refine va_put (D := D) (ci := 7) (v := .int 0) (ty := .boolean) (C := RX7) (T := TX7) (N := 34) hx hb hts hi_7 tyX7 tyX7_ok nmX7 hown hK hP hD hS 0 rfl rfl 16 (by decide) hf_127 (fun _ h9 => h9) rfl (by decide +kernel) rfl rfl (Nat.le_of_ble_eq_true rfl) dX7_playTo_67 (fun H locs hP hD hS => ?_)
              have hP : va_P D vwCl [(mo, .inr (7, moV (nI nn) (nI mm) me mj mw mp mu (zb (ke = true)) bd ml (nI sq) mq ((playA nn pr ne ow pl ke fire k).1) ((playA nn pr ne ow pl ke fire k).2.1) (fillM ow ke (k + 1) ((playA nn pr ne ow pl ke fire k).2.2.1)) ((playA nn pr ne ow pl ke fire k).2.2.2.1) 0 ((playA nn pr ne ow pl ke fire k).2.2.2.2.2) m1 m2 m3 m4 lk (zb (sp = true)) bs bo m5 m6 m7 su sl m8 lo sh)), (mj, .inl (cI, 10, .inl ne)), (mp, .inl (cI, 10, .inl pr)), (mu, .inl (cI, 9, .inl ow)), (ml, .inl (cI, 9, .inl pl))] H := hP
              have hD : va_D A [(mo, .inr (7, moV (nI nn) (nI mm) me mj mw mp mu (zb (ke = true)) bd ml (nI sq) mq ((playA nn pr ne ow pl ke fire k).1) ((playA nn pr ne ow pl ke fire k).2.1) (fillM ow ke (k + 1) ((playA nn pr ne ow pl ke fire k).2.2.1)) ((playA nn pr ne ow pl ke fire k).2.2.2.1) 0 ((playA nn pr ne ow pl ke fire k).2.2.2.2.2) m1 m2 m3 m4 lk (zb (sp = true)) bs bo m5 m6 m7 su sl m8 lo sh)), (mj, .inl (cI, 10, .inl ne)), (mp, .inl (cI, 10, .inl pr)), (mu, .inl (cI, 9, .inl ow)), (ml, .inl (cI, 9, .inl pl))] := hD
              refine lv_aload_n hx hb dX7_playTo_70 rfl (lv_at hl 1 rfl) ?_
              refine va_get (D := D) (ci := 7) (v := .int 0) (C := RX7) (T := TX7) (N := 34) hx hb hts hi_7 hown hK hP 0 rfl rfl 16 (by decide) hf_127 (fun _ h9 => h9) rfl dX7_playTo_71 ?_
              refine lv_if_eq (tgt := 85) hx hb dX7_playTo_74 (by decide) (fun c_74 => ?_) (fun c_74 => ?_)
              · refine lv_aload_n hx hb dX7_playTo_85 rfl (lv_at hl 1 rfl) ?_
                refine lv_iload hx hb dX7_playTo_86 (lv_at hl 0 rfl) ?_
                refine goMV hP hD hS (va_runV (As := [.int (pl (k + 1))]) (rest := []) ⟨hx, hb, hml, hown, hts⟩ (kX7_guard l D cI cJ mo nn mm me mj mw mp mu ke bd ml sq mq ((playA nn pr ne ow pl ke fire k).1) ((playA nn pr ne ow pl ke fire k).2.1) (fillM ow ke (k + 1) ((playA nn pr ne ow pl ke fire k).2.2.1)) ((playA nn pr ne ow pl ke fire k).2.2.2.1) false ((playA nn pr ne ow pl ke fire k).2.2.2.2.2) m1 m2 m3 m4 lk sp bs bo m5 m6 m7 su sl m8 lo sh pr (pl (k + 1)) (by omega)) (cwV 1 hts gX7_playTo_X7_guard rfl rfl rfl kdX7_guard ⟨Nat.le_of_ble_eq_true rfl, Nat.le_of_ble_eq_true rfl⟩) (preMV hK hN hP hD 0 (ci := 7) rfl rfl rfl [0, 2] rfl (by decide)) rfl rfl hl.1 rfl (lv_room (Nat.le_of_ble_eq_true rfl)) dX7_playTo_88 ⟨Nat.zero_le _, Nat.zero_le _⟩) [0, 2] rfl (by decide) (fun _ => (show ([mo, mp] : List Nat) = [mo, mp] from rfl)) (fun _ H locs hp_88 hP hD hS => ?_)
                have hP : va_P D vwCl [(mo, .inr (7, moV (nI nn) (nI mm) me mj mw mp mu (zb (ke = true)) bd ml (nI sq) mq ((playA nn pr ne ow pl ke fire k).1) (((playA nn pr ne ow pl ke fire k).2.1) ||| (pl (k + 1))) ((fillM ow ke (k + 1) ((playA nn pr ne ow pl ke fire k).2.2.1)) - sumM pr (pl (k + 1)) nn) (((playA nn pr ne ow pl ke fire k).2.2.2.1) + sumM pr (pl (k + 1)) nn) (zb (false = true)) ((playA nn pr ne ow pl ke fire k).2.2.2.2.2) m1 m2 m3 m4 lk (zb (sp = true)) bs bo m5 m6 m7 su sl m8 lo sh)), (mj, .inl (cI, 10, .inl ne)), (mp, .inl (cI, 10, .inl pr)), (mu, .inl (cI, 9, .inl ow)), (ml, .inl (cI, 9, .inl pl))] H := hP
                have hD : va_D A [(mo, .inr (7, moV (nI nn) (nI mm) me mj mw mp mu (zb (ke = true)) bd ml (nI sq) mq ((playA nn pr ne ow pl ke fire k).1) (((playA nn pr ne ow pl ke fire k).2.1) ||| (pl (k + 1))) ((fillM ow ke (k + 1) ((playA nn pr ne ow pl ke fire k).2.2.1)) - sumM pr (pl (k + 1)) nn) (((playA nn pr ne ow pl ke fire k).2.2.2.1) + sumM pr (pl (k + 1)) nn) (zb (false = true)) ((playA nn pr ne ow pl ke fire k).2.2.2.2.2) m1 m2 m3 m4 lk (zb (sp = true)) bs bo m5 m6 m7 su sl m8 lo sh)), (mj, .inl (cI, 10, .inl ne)), (mp, .inl (cI, 10, .inl pr)), (mu, .inl (cI, 9, .inl ow)), (ml, .inl (cI, 9, .inl pl))] := hD
                refine lv_aload_n hx hb dX7_playTo_91 rfl (lv_at hl 1 rfl) ?_
                refine lv_aload_n hx hb dX7_playTo_92 rfl (lv_at hl 1 rfl) ?_
                refine goMI hP hD hS (va_runV (As := []) (rest := [.ref mo]) ⟨hx, hb, hml, hown, hts⟩ (kX7_spreads l D cI cJ mo nn mm me mj mw mp mu ke bd ml sq mq ((playA nn pr ne ow pl ke fire k).1) (((playA nn pr ne ow pl ke fire k).2.1) ||| (pl (k + 1))) ((fillM ow ke (k + 1) ((playA nn pr ne ow pl ke fire k).2.2.1)) - sumM pr (pl (k + 1)) nn) (((playA nn pr ne ow pl ke fire k).2.2.2.1) + sumM pr (pl (k + 1)) nn) false ((playA nn pr ne ow pl ke fire k).2.2.2.2.2) m1 m2 m3 m4 lk sp bs bo m5 m6 m7 su sl m8 lo sh ne (by omega)) (cwV 0 hts gX7_playTo_X7_spreads rfl rfl rfl kdX7_spreads ⟨Nat.le_of_ble_eq_true rfl, Nat.le_of_ble_eq_true rfl⟩) (preMV hK hN hP hD 0 (ci := 7) rfl rfl rfl [0, 1] rfl (by decide)) rfl rfl hl.1 rfl (lv_room (Nat.le_of_ble_eq_true rfl)) dX7_playTo_93 ⟨Nat.zero_le _, Nat.zero_le _⟩) [0, 1] rfl (by decide) (fun _ => (show ([mo, mj] : List Nat) = [mo, mj] from rfl)) (fun r_93 _ H locs hp_93 hP hD hS => ?_)
                have hP : va_P D vwCl [(mo, .inr (7, moV (nI nn) (nI mm) me mj mw mp mu (zb (ke = true)) bd ml (nI sq) mq (((playA nn pr ne ow pl ke fire k).1) ||| nearM nn ne ((playA nn pr ne ow pl ke fire k).1) (((playA nn pr ne ow pl ke fire k).2.1) ||| (pl (k + 1)))) (((playA nn pr ne ow pl ke fire k).2.1) ||| (pl (k + 1))) ((fillM ow ke (k + 1) ((playA nn pr ne ow pl ke fire k).2.2.1)) - sumM pr (pl (k + 1)) nn) (((playA nn pr ne ow pl ke fire k).2.2.2.1) + sumM pr (pl (k + 1)) nn) (zb (false = true)) ((playA nn pr ne ow pl ke fire k).2.2.2.2.2) m1 m2 m3 m4 lk (zb (sp = true)) bs bo m5 m6 m7 su sl m8 lo sh)), (mj, .inl (cI, 10, .inl ne)), (mp, .inl (cI, 10, .inl pr)), (mu, .inl (cI, 9, .inl ow)), (ml, .inl (cI, 9, .inl pl))] H := hP
                have hD : va_D A [(mo, .inr (7, moV (nI nn) (nI mm) me mj mw mp mu (zb (ke = true)) bd ml (nI sq) mq (((playA nn pr ne ow pl ke fire k).1) ||| nearM nn ne ((playA nn pr ne ow pl ke fire k).1) (((playA nn pr ne ow pl ke fire k).2.1) ||| (pl (k + 1)))) (((playA nn pr ne ow pl ke fire k).2.1) ||| (pl (k + 1))) ((fillM ow ke (k + 1) ((playA nn pr ne ow pl ke fire k).2.2.1)) - sumM pr (pl (k + 1)) nn) (((playA nn pr ne ow pl ke fire k).2.2.2.1) + sumM pr (pl (k + 1)) nn) (zb (false = true)) ((playA nn pr ne ow pl ke fire k).2.2.2.2.2) m1 m2 m3 m4 lk (zb (sp = true)) bs bo m5 m6 m7 su sl m8 lo sh)), (mj, .inl (cI, 10, .inl ne)), (mp, .inl (cI, 10, .inl pr)), (mu, .inl (cI, 9, .inl ow)), (ml, .inl (cI, 9, .inl pl))] := hD
                obtain rfl := hp_93
                refine r_zeq (tgt := 103) hx hb dX7_playTo_96 (by decide) (fun c_96 => ?_) (fun c_96 => ?_)
                · refine lv_iload_n hx hb dX7_playTo_103 rfl (lv_at hl 4 rfl) ?_
                  refine va_put (D := D) (ci := 7) (v := .int (nI (k + 1))) (ty := .int) (C := RX7) (T := TX7) (N := 34) hx hb hts hi_7 tyX7 tyX7_ok nmX7 hown hK hP hD hS 0 rfl rfl 17 (by decide) hf_130 (fun _ h9 => h9) rfl (by decide +kernel) rfl rfl (Nat.le_of_ble_eq_true rfl) dX7_playTo_104 (fun H locs hP hD hS => ?_)
                  have hP : va_P D vwCl [(mo, .inr (7, moV (nI nn) (nI mm) me mj mw mp mu (zb (ke = true)) bd ml (nI sq) mq (((playA nn pr ne ow pl ke fire k).1) ||| nearM nn ne ((playA nn pr ne ow pl ke fire k).1) (((playA nn pr ne ow pl ke fire k).2.1) ||| (pl (k + 1)))) (((playA nn pr ne ow pl ke fire k).2.1) ||| (pl (k + 1))) ((fillM ow ke (k + 1) ((playA nn pr ne ow pl ke fire k).2.2.1)) - sumM pr (pl (k + 1)) nn) (((playA nn pr ne ow pl ke fire k).2.2.2.1) + sumM pr (pl (k + 1)) nn) (zb (false = true)) (nI (k + 1)) m1 m2 m3 m4 lk (zb (sp = true)) bs bo m5 m6 m7 su sl m8 lo sh)), (mj, .inl (cI, 10, .inl ne)), (mp, .inl (cI, 10, .inl pr)), (mu, .inl (cI, 9, .inl ow)), (ml, .inl (cI, 9, .inl pl))] H := hP
                  have hD : va_D A [(mo, .inr (7, moV (nI nn) (nI mm) me mj mw mp mu (zb (ke = true)) bd ml (nI sq) mq (((playA nn pr ne ow pl ke fire k).1) ||| nearM nn ne ((playA nn pr ne ow pl ke fire k).1) (((playA nn pr ne ow pl ke fire k).2.1) ||| (pl (k + 1)))) (((playA nn pr ne ow pl ke fire k).2.1) ||| (pl (k + 1))) ((fillM ow ke (k + 1) ((playA nn pr ne ow pl ke fire k).2.2.1)) - sumM pr (pl (k + 1)) nn) (((playA nn pr ne ow pl ke fire k).2.2.2.1) + sumM pr (pl (k + 1)) nn) (zb (false = true)) (nI (k + 1)) m1 m2 m3 m4 lk (zb (sp = true)) bs bo m5 m6 m7 su sl m8 lo sh)), (mj, .inl (cI, 10, .inl ne)), (mp, .inl (cI, 10, .inl pr)), (mu, .inl (cI, 9, .inl ow)), (ml, .inl (cI, 9, .inl pl))] := hD
                  refine r_iinc (lv' := [(3, .int (nI ((k + 1) + 1))), (4, .int (pl (k + 1))), (0, .ref mo), (1, .int fire), (2, .int (nI la))]) hx hb 4 (k + 1) dX7_playTo_107 hl rfl (by decide) rfl (fun ls hl => ?_)
                  refine lv_goto (tgt := 17) hx hb dX7_playTo_110 (by decide) ?_
                  exact ih_lp (k + 1) (by omega) (by omega) ls _ _ (lv_sub hl [2, 3, 4, 0] rfl) (by rw [playA, if_pos c_26, playS, if_pos (by omega), playS2, if_pos c_59, if_neg c_96]; exact hP) (by rw [playA, if_pos c_26, playS, if_pos (by omega), playS2, if_pos c_59, if_neg c_96]; exact hD) hS
                · refine lv_iconst (v := 0) hx hb dX7_playTo_99 (by decide) ?_
                  refine lv_goto (tgt := 104) hx hb dX7_playTo_100 (by decide) ?_
                  refine va_put (D := D) (ci := 7) (v := .int 0) (ty := .int) (C := RX7) (T := TX7) (N := 34) hx hb hts hi_7 tyX7 tyX7_ok nmX7 hown hK hP hD hS 0 rfl rfl 17 (by decide) hf_130 (fun _ h9 => h9) rfl (by decide +kernel) rfl rfl (Nat.le_of_ble_eq_true rfl) dX7_playTo_104 (fun H locs hP hD hS => ?_)
                  have hP : va_P D vwCl [(mo, .inr (7, moV (nI nn) (nI mm) me mj mw mp mu (zb (ke = true)) bd ml (nI sq) mq (((playA nn pr ne ow pl ke fire k).1) ||| nearM nn ne ((playA nn pr ne ow pl ke fire k).1) (((playA nn pr ne ow pl ke fire k).2.1) ||| (pl (k + 1)))) (((playA nn pr ne ow pl ke fire k).2.1) ||| (pl (k + 1))) ((fillM ow ke (k + 1) ((playA nn pr ne ow pl ke fire k).2.2.1)) - sumM pr (pl (k + 1)) nn) (((playA nn pr ne ow pl ke fire k).2.2.2.1) + sumM pr (pl (k + 1)) nn) (zb (false = true)) 0 m1 m2 m3 m4 lk (zb (sp = true)) bs bo m5 m6 m7 su sl m8 lo sh)), (mj, .inl (cI, 10, .inl ne)), (mp, .inl (cI, 10, .inl pr)), (mu, .inl (cI, 9, .inl ow)), (ml, .inl (cI, 9, .inl pl))] H := hP
                  have hD : va_D A [(mo, .inr (7, moV (nI nn) (nI mm) me mj mw mp mu (zb (ke = true)) bd ml (nI sq) mq (((playA nn pr ne ow pl ke fire k).1) ||| nearM nn ne ((playA nn pr ne ow pl ke fire k).1) (((playA nn pr ne ow pl ke fire k).2.1) ||| (pl (k + 1)))) (((playA nn pr ne ow pl ke fire k).2.1) ||| (pl (k + 1))) ((fillM ow ke (k + 1) ((playA nn pr ne ow pl ke fire k).2.2.1)) - sumM pr (pl (k + 1)) nn) (((playA nn pr ne ow pl ke fire k).2.2.2.1) + sumM pr (pl (k + 1)) nn) (zb (false = true)) 0 m1 m2 m3 m4 lk (zb (sp = true)) bs bo m5 m6 m7 su sl m8 lo sh)), (mj, .inl (cI, 10, .inl ne)), (mp, .inl (cI, 10, .inl pr)), (mu, .inl (cI, 9, .inl ow)), (ml, .inl (cI, 9, .inl pl))] := hD
                  refine r_iinc (lv' := [(3, .int (nI ((k + 1) + 1))), (4, .int (pl (k + 1))), (0, .ref mo), (1, .int fire), (2, .int (nI la))]) hx hb 4 (k + 1) dX7_playTo_107 hl rfl (by decide) rfl (fun ls hl => ?_)
                  refine lv_goto (tgt := 17) hx hb dX7_playTo_110 (by decide) ?_
                  exact ih_lp (k + 1) (by omega) (by omega) ls _ _ (lv_sub hl [2, 3, 4, 0] rfl) (by rw [playA, if_pos c_26, playS, if_pos (by omega), playS2, if_pos c_59, if_pos c_96]; exact hP) (by rw [playA, if_pos c_26, playS, if_pos (by omega), playS2, if_pos c_59, if_pos c_96]; exact hD) hS
              · exact absurd rfl c_74
            · refine lv_iconst (v := 1) hx hb dX7_playTo_62 (by decide) ?_
              refine lv_goto (tgt := 67) hx hb dX7_playTo_63 (by decide) ?_
              refine va_put (D := D) (ci := 7) (v := .int 1) (ty := .boolean) (C := RX7) (T := TX7) (N := 34) hx hb hts hi_7 tyX7 tyX7_ok nmX7 hown hK hP hD hS 0 rfl rfl 16 (by decide) hf_127 (fun _ h9 => h9) rfl (by decide +kernel) rfl rfl (Nat.le_of_ble_eq_true rfl) dX7_playTo_67 (fun H locs hP hD hS => ?_)
              have hP : va_P D vwCl [(mo, .inr (7, moV (nI nn) (nI mm) me mj mw mp mu (zb (ke = true)) bd ml (nI sq) mq ((playA nn pr ne ow pl ke fire k).1) ((playA nn pr ne ow pl ke fire k).2.1) (fillM ow ke (k + 1) ((playA nn pr ne ow pl ke fire k).2.2.1)) ((playA nn pr ne ow pl ke fire k).2.2.2.1) 1 ((playA nn pr ne ow pl ke fire k).2.2.2.2.2) m1 m2 m3 m4 lk (zb (sp = true)) bs bo m5 m6 m7 su sl m8 lo sh)), (mj, .inl (cI, 10, .inl ne)), (mp, .inl (cI, 10, .inl pr)), (mu, .inl (cI, 9, .inl ow)), (ml, .inl (cI, 9, .inl pl))] H := hP
              have hD : va_D A [(mo, .inr (7, moV (nI nn) (nI mm) me mj mw mp mu (zb (ke = true)) bd ml (nI sq) mq ((playA nn pr ne ow pl ke fire k).1) ((playA nn pr ne ow pl ke fire k).2.1) (fillM ow ke (k + 1) ((playA nn pr ne ow pl ke fire k).2.2.1)) ((playA nn pr ne ow pl ke fire k).2.2.2.1) 1 ((playA nn pr ne ow pl ke fire k).2.2.2.2.2) m1 m2 m3 m4 lk (zb (sp = true)) bs bo m5 m6 m7 su sl m8 lo sh)), (mj, .inl (cI, 10, .inl ne)), (mp, .inl (cI, 10, .inl pr)), (mu, .inl (cI, 9, .inl ow)), (ml, .inl (cI, 9, .inl pl))] := hD
              refine lv_aload_n hx hb dX7_playTo_70 rfl (lv_at hl 1 rfl) ?_
              refine va_get (D := D) (ci := 7) (v := .int 1) (C := RX7) (T := TX7) (N := 34) hx hb hts hi_7 hown hK hP 0 rfl rfl 16 (by decide) hf_127 (fun _ h9 => h9) rfl dX7_playTo_71 ?_
              refine lv_if_eq (tgt := 85) hx hb dX7_playTo_74 (by decide) (fun c_74 => ?_) (fun c_74 => ?_)
              · exact absurd c_74 (by decide)
              · refine lv_aload_n hx hb dX7_playTo_77 rfl (lv_at hl 1 rfl) ?_
                refine lv_iload_n hx hb dX7_playTo_78 rfl (lv_at hl 4 rfl) ?_
                refine va_put (D := D) (ci := 7) (v := .int (nI (k + 1))) (ty := .int) (C := RX7) (T := TX7) (N := 34) hx hb hts hi_7 tyX7 tyX7_ok nmX7 hown hK hP hD hS 0 rfl rfl 17 (by decide) hf_130 (fun _ h9 => h9) rfl (by decide +kernel) rfl rfl (Nat.le_of_ble_eq_true rfl) dX7_playTo_79 (fun H locs hP hD hS => ?_)
                have hP : va_P D vwCl [(mo, .inr (7, moV (nI nn) (nI mm) me mj mw mp mu (zb (ke = true)) bd ml (nI sq) mq ((playA nn pr ne ow pl ke fire k).1) ((playA nn pr ne ow pl ke fire k).2.1) (fillM ow ke (k + 1) ((playA nn pr ne ow pl ke fire k).2.2.1)) ((playA nn pr ne ow pl ke fire k).2.2.2.1) 1 (nI (k + 1)) m1 m2 m3 m4 lk (zb (sp = true)) bs bo m5 m6 m7 su sl m8 lo sh)), (mj, .inl (cI, 10, .inl ne)), (mp, .inl (cI, 10, .inl pr)), (mu, .inl (cI, 9, .inl ow)), (ml, .inl (cI, 9, .inl pl))] H := hP
                have hD : va_D A [(mo, .inr (7, moV (nI nn) (nI mm) me mj mw mp mu (zb (ke = true)) bd ml (nI sq) mq ((playA nn pr ne ow pl ke fire k).1) ((playA nn pr ne ow pl ke fire k).2.1) (fillM ow ke (k + 1) ((playA nn pr ne ow pl ke fire k).2.2.1)) ((playA nn pr ne ow pl ke fire k).2.2.2.1) 1 (nI (k + 1)) m1 m2 m3 m4 lk (zb (sp = true)) bs bo m5 m6 m7 su sl m8 lo sh)), (mj, .inl (cI, 10, .inl ne)), (mp, .inl (cI, 10, .inl pr)), (mu, .inl (cI, 9, .inl ow)), (ml, .inl (cI, 9, .inl pl))] := hD
                refine lv_goto (tgt := 107) hx hb dX7_playTo_82 (by decide) ?_
                refine r_iinc (lv' := [(3, .int (nI ((k + 1) + 1))), (4, .int (pl (k + 1))), (0, .ref mo), (1, .int fire), (2, .int (nI la))]) hx hb 4 (k + 1) dX7_playTo_107 hl rfl (by decide) rfl (fun ls hl => ?_)
                refine lv_goto (tgt := 17) hx hb dX7_playTo_110 (by decide) ?_
                exact ih_lp (k + 1) (by omega) (by omega) ls _ _ (lv_sub hl [2, 3, 4, 0] rfl) (by rw [playA, if_pos c_26, playS, if_pos (by omega), playS2, if_neg c_59]; exact hP) (by rw [playA, if_pos c_26, playS, if_pos (by omega), playS2, if_neg c_59]; exact hD) hS
  exact lp _ 0 (by omega) (Nat.lt_succ_self _) ls _ _ (lv_sub hl [1, 2, 3, 0] rfl) hP hD hS
def rmX7_play : Room := { frames := 3, cells := 0, slots := 0, locals := 68 }
theorem kdX7_play : yX7_play.cls = RX7 ∧ yX7_play.cls ≠ "java/lang/invoke/MethodHandle" ∧ yX7_play.cls ≠ "java/lang/invoke/VarHandle" ∧ (parseMethodDescriptor yX7_play.desc).map (fun d => d.parameters.length) = some 2 := ⟨rfl, by decide +kernel, by decide +kernel, by decide +kernel⟩
set_option maxRecDepth 100000 in
set_option maxHeartbeats 1000000 in
theorem kX7_play (l : Launch) (D : va_G) (cI cJ : ClassId) (mo : Nat) (nn : Nat) (mm : Nat) (me : Nat) (mj : Nat) (mw : Nat) (mp : Nat) (mu : Nat) (ke : Bool) (bd : Int32) (ml : Nat) (sq : Nat) (mq : Nat) (xm : Pm) (m1 : Nat) (m2 : Nat) (m3 : Nat) (m4 : Nat) (lk : Int32) (sp : Bool) (bs : Int32) (bo : Int32) (m5 : Nat) (m6 : Nat) (m7 : Nat) (su : Int32) (sl : Int32) (m8 : Nat) (lo : Int32) (sh : Int32) (ne : Row) (wo : Row) (pr : Row) (ow : Row) (pl : Row) (fire what : Int32) (y : Pm) (hn10 : nn ≤ 10) (hy : y = playA nn pr ne ow pl ke fire 30) : Met l yX7_play wsX7_play rmX7_play (mPre D cI cJ [.ref mo, .int fire, .int what] [(mo, .inr (7, moV (nI nn) (nI mm) me mj mw mp mu (zb (ke = true)) bd ml (nI sq) mq xm.1 xm.2.1 xm.2.2.1 xm.2.2.2.1 (zb (xm.2.2.2.2.1 = true)) xm.2.2.2.2.2 m1 m2 m3 m4 lk (zb (sp = true)) bs bo m5 m6 m7 su sl m8 lo sh)), (mj, .inl (cI, 10, .inl ne)), (mw, .inl (cI, 10, .inl wo)), (mp, .inl (cI, 10, .inl pr)), (mu, .inl (cI, 9, .inl ow)), (ml, .inl (cI, 9, .inl pl))]) (mQi D (fun (r : Int32) (u : (Pm)) => r = (playR nn wo y fire what)) (fun (u : (Pm)) => [(mo, .inr (7, moV (nI nn) (nI mm) me mj mw mp mu (zb (ke = true)) bd ml (nI sq) mq u.1 u.2.1 u.2.2.1 u.2.2.2.1 (zb (u.2.2.2.2.1 = true)) u.2.2.2.2.2 m1 m2 m3 m4 lk (zb (sp = true)) bs bo m5 m6 m7 su sl m8 lo sh)), (mj, .inl (cI, 10, .inl ne)), (mw, .inl (cI, 10, .inl wo)), (mp, .inl (cI, 10, .inl pr)), (mu, .inl (cI, 9, .inl ow)), (ml, .inl (cI, 9, .inl pl))]) [(mo, .inr (7, moV (nI nn) (nI mm) me mj mw mp mu (zb (ke = true)) bd ml (nI sq) mq xm.1 xm.2.1 xm.2.2.1 xm.2.2.2.1 (zb (xm.2.2.2.2.1 = true)) xm.2.2.2.2.2 m1 m2 m3 m4 lk (zb (sp = true)) bs bo m5 m6 m7 su sl m8 lo sh)), (mj, .inl (cI, 10, .inl ne)), (mw, .inl (cI, 10, .inl wo)), (mp, .inl (cI, 10, .inl pr)), (mu, .inl (cI, 9, .inl ow)), (ml, .inl (cI, 9, .inl pl))]) 0 0 (mA [(mo, .inr (7, moV (nI nn) (nI mm) me mj mw mp mu (zb (ke = true)) bd ml (nI sq) mq xm.1 xm.2.1 xm.2.2.1 xm.2.2.2.1 (zb (xm.2.2.2.2.1 = true)) xm.2.2.2.2.2 m1 m2 m3 m4 lk (zb (sp = true)) bs bo m5 m6 m7 su sl m8 lo sh)), (mj, .inl (cI, 10, .inl ne)), (mw, .inl (cI, 10, .inl wo)), (mp, .inl (cI, 10, .inl pr)), (mu, .inl (cI, 9, .inl ow)), (ml, .inl (cI, 9, .inl pl))]) := by
  refine startM (cc := cX7_play) (maxL := 3) (ret := (some .int)) (by decide) rfl (Nat.le_of_ble_eq_true rfl) ?_
  intro p e s m args below meth c ls Q A hA hQ hx hb hr hlocks hml hown hts hK hN hP hD hl hin
  have hown : s.vm.findClass RX7 = some m.cls := hown
  have hi_7 : ∀ w ∈ wsX70, w ∈ wsX7_play := by decide +kernel
  have hf_103 := hts (.fieldLink RX7 103 "FireNetsModel" "fire" "I") (by decide +kernel)
  have hf_106 := hts (.fieldLink RX7 106 "FireNetsModel" "guards" "I") (by decide +kernel)
  have hf_112 := hts (.fieldLink RX7 112 "FireNetsModel" "cost" "I") (by decide +kernel)
  have hf_127 := hts (.fieldLink RX7 127 "FireNetsModel" "isBad" "Z") (by decide +kernel)
  have hf_130 := hts (.fieldLink RX7 130 "FireNetsModel" "overAt" "I") (by decide +kernel)
  have hc_149 := hts (.constantLong RX7 149 (4)) (by decide +kernel)
  have hS : va_S A s.heap s.heap [] := va_S.rf
  have hl : lv_has ls 3 [(0, .ref mo), (1, .int fire), (2, .int what)] := hl
  have hP : va_P D vwCl [(mo, .inr (7, moV (nI nn) (nI mm) me mj mw mp mu (zb (ke = true)) bd ml (nI sq) mq xm.1 xm.2.1 xm.2.2.1 xm.2.2.2.1 (zb (xm.2.2.2.2.1 = true)) xm.2.2.2.2.2 m1 m2 m3 m4 lk (zb (sp = true)) bs bo m5 m6 m7 su sl m8 lo sh)), (mj, .inl (cI, 10, .inl ne)), (mw, .inl (cI, 10, .inl wo)), (mp, .inl (cI, 10, .inl pr)), (mu, .inl (cI, 9, .inl ow)), (ml, .inl (cI, 9, .inl pl))] s.heap := hP
  refine lv_aload_n hx hb dX7_play_0 rfl (lv_at hl 0 rfl) ?_
  refine lv_iload_n hx hb dX7_play_1 rfl (lv_at hl 1 rfl) ?_
  refine goRI hP hS (va_runV (As := [.int fire]) (rest := []) ⟨hx, hb, hml, hown, hts⟩ (kX7_isFire l D cI cJ mo nn mm me mj mw mp mu ke bd ml sq mq xm.1 xm.2.1 xm.2.2.1 xm.2.2.2.1 xm.2.2.2.2.1 xm.2.2.2.2.2 m1 m2 m3 m4 lk sp bs bo m5 m6 m7 su sl m8 lo sh fire) (cwV 1 hts gX7_play_X7_isFire rfl rfl rfl kdX7_isFire ⟨Nat.le_of_ble_eq_true rfl, Nat.le_of_ble_eq_true rfl⟩) (preRV hK hN hP 0 (ci := 7) rfl rfl rfl [0] rfl) rfl rfl hl.1 rfl (lv_room (Nat.le_of_ble_eq_true rfl)) dX7_play_2 ⟨Nat.zero_le _, Nat.zero_le _⟩) (fun H locs hP hS => ?_)
  refine r_zeq (tgt := 20) hx hb dX7_play_5 (by decide) (fun c_5 => ?_) (fun c_5 => ?_)
  · refine lv_sipush (v := (-1002)) hx hb dX7_play_20 (by decide) ?_
    exact endMI xm hx hb hr hlocks hA hQ hS hP dX7_play_23 rfl (by unfold playR; (first | rw [if_pos c_5] | rw [if_neg c_5] | rw [if_neg (Nat.not_lt.mpr c_5)] | rw [if_neg (Nat.not_le.mpr c_5)] | rw [if_neg (i_nlt c_5)] | rw [if_neg (i_nle c_5)] | rw [if_pos (i_lt c_5)] | rw [if_pos (i_le c_5)]))
  · refine lv_iload_n hx hb dX7_play_8 rfl (lv_at hl 2 rfl) ?_
    refine lv_i2l (v := what.toInt64) hx hb dX7_play_9 rfl ?_
    refine lv_lconst (v := 0) hx hb dX7_play_10 (by decide) ?_
    refine lv_ldc2 (v := 4) hx hb hown hc_149 dX7_play_11 ?_
    refine goRI hP hS (va_runS (As := [.long what.toInt64, .long 0, .long 4]) (rest := []) ⟨hx, hb, hml, hown, hts⟩ (kX7_in l D cI cJ what.toInt64 0 4) (va_cwS 3 hts gX7_play_X7_in rfl rfl rfl kdX7_in.2 ⟨Nat.le_of_ble_eq_true rfl, Nat.le_of_ble_eq_true rfl⟩) (preR hK hN hP [] rfl) rfl rfl hl.1 rfl (lv_room (Nat.le_of_ble_eq_true rfl)) dX7_play_14 ⟨Nat.zero_le _, Nat.zero_le _⟩) (fun H locs hP hS => ?_)
    refine r_top (x' := zb (0 ≤ what ∧ what ≤ 4)) (zb_iff (in_c (by first | rfl | decide) (by first | rfl | decide))) ?_
    refine r_zne (tgt := 24) hx hb dX7_play_17 (by decide) (fun c_17 => ?_) (fun c_17 => ?_)
    · refine lv_aload_n hx hb dX7_play_24 rfl (lv_at hl 0 rfl) ?_
      refine lv_iload_n hx hb dX7_play_25 rfl (lv_at hl 1 rfl) ?_
      refine lv_bipush (v := 30) hx hb dX7_play_26 (by decide) ?_
      refine goMV hP hD hS (va_runV (As := [.int fire, .int 30]) (rest := []) ⟨hx, hb, hml, hown, hts⟩ (kX7_playTo l D cI cJ mo nn mm me mj mw mp mu ke bd ml sq mq xm m1 m2 m3 m4 lk sp bs bo m5 m6 m7 su sl m8 lo sh ne pr ow pl fire 30 y (by omega) (by omega) hy) (cwV 2 hts gX7_play_X7_playTo rfl rfl rfl kdX7_playTo ⟨Nat.le_of_ble_eq_true rfl, Nat.le_of_ble_eq_true rfl⟩) (preMV hK hN hP hD 0 (ci := 7) rfl rfl rfl [0, 1, 3, 4, 5] rfl (by decide)) rfl rfl hl.1 rfl (lv_room (Nat.le_of_ble_eq_true rfl)) dX7_play_28 ⟨Nat.zero_le _, Nat.zero_le _⟩) [0, 1, 3, 4, 5] rfl (by decide) (fun _ => (show ([mo, mj, mp, mu, ml] : List Nat) = [mo, mj, mp, mu, ml] from rfl)) (fun _ H locs hp_28 hP hD hS => ?_)
      have hP : va_P D vwCl [(mo, .inr (7, moV (nI nn) (nI mm) me mj mw mp mu (zb (ke = true)) bd ml (nI sq) mq y.1 y.2.1 y.2.2.1 y.2.2.2.1 (zb (y.2.2.2.2.1 = true)) y.2.2.2.2.2 m1 m2 m3 m4 lk (zb (sp = true)) bs bo m5 m6 m7 su sl m8 lo sh)), (mj, .inl (cI, 10, .inl ne)), (mw, .inl (cI, 10, .inl wo)), (mp, .inl (cI, 10, .inl pr)), (mu, .inl (cI, 9, .inl ow)), (ml, .inl (cI, 9, .inl pl))] H := hP
      have hD : va_D A [(mo, .inr (7, moV (nI nn) (nI mm) me mj mw mp mu (zb (ke = true)) bd ml (nI sq) mq y.1 y.2.1 y.2.2.1 y.2.2.2.1 (zb (y.2.2.2.2.1 = true)) y.2.2.2.2.2 m1 m2 m3 m4 lk (zb (sp = true)) bs bo m5 m6 m7 su sl m8 lo sh)), (mj, .inl (cI, 10, .inl ne)), (mw, .inl (cI, 10, .inl wo)), (mp, .inl (cI, 10, .inl pr)), (mu, .inl (cI, 9, .inl ow)), (ml, .inl (cI, 9, .inl pl))] := hD
      refine lv_iload_n hx hb dX7_play_31 rfl (lv_at hl 2 rfl) ?_
      refine lv_if_ne (tgt := 53) hx hb dX7_play_32 (by decide) (fun c_32 => ?_) (fun c_32 => ?_)
      · refine lv_iload_n hx hb dX7_play_53 rfl (lv_at hl 2 rfl) ?_
        refine lv_iconst (v := 1) hx hb dX7_play_54 (by decide) ?_
        refine lv_icmp_ne (tgt := 65) hx hb dX7_play_55 (by decide) (fun c_55 => ?_) (fun c_55 => ?_)
        · refine lv_iload_n hx hb dX7_play_65 rfl (lv_at hl 2 rfl) ?_
          refine lv_iconst (v := 2) hx hb dX7_play_66 (by decide) ?_
          refine lv_icmp_ne (tgt := 77) hx hb dX7_play_67 (by decide) (fun c_67 => ?_) (fun c_67 => ?_)
          · refine lv_iload_n hx hb dX7_play_77 rfl (lv_at hl 2 rfl) ?_
            refine lv_iconst (v := 3) hx hb dX7_play_78 (by decide) ?_
            refine lv_icmp_ne (tgt := 89) hx hb dX7_play_79 (by decide) (fun c_79 => ?_) (fun c_79 => ?_)
            · refine lv_aload_n hx hb dX7_play_89 rfl (lv_at hl 0 rfl) ?_
              refine va_get (D := D) (ci := 7) (v := .int y.2.2.2.1) (C := RX7) (T := TX7) (N := 34) hx hb hts hi_7 hown hK hP 0 rfl rfl 15 (by decide) hf_112 (fun _ h9 => h9) rfl dX7_play_90 ?_
              exact endMI y hx hb hr hlocks hA hQ hS hP dX7_play_93 rfl (by unfold playR; (first | rw [if_pos c_5] | rw [if_neg c_5] | rw [if_neg (Nat.not_lt.mpr c_5)] | rw [if_neg (Nat.not_le.mpr c_5)] | rw [if_neg (i_nlt c_5)] | rw [if_neg (i_nle c_5)] | rw [if_pos (i_lt c_5)] | rw [if_pos (i_le c_5)]); (first | rw [if_pos c_17] | rw [if_neg c_17] | rw [if_neg (Nat.not_lt.mpr c_17)] | rw [if_neg (Nat.not_le.mpr c_17)] | rw [if_neg (i_nlt c_17)] | rw [if_neg (i_nle c_17)] | rw [if_pos (i_lt c_17)] | rw [if_pos (i_le c_17)]); (first | rw [if_pos c_32] | rw [if_neg c_32] | rw [if_neg (Nat.not_lt.mpr c_32)] | rw [if_neg (Nat.not_le.mpr c_32)] | rw [if_neg (i_nlt c_32)] | rw [if_neg (i_nle c_32)] | rw [if_pos (i_lt c_32)] | rw [if_pos (i_le c_32)]); (first | rw [if_pos c_55] | rw [if_neg c_55] | rw [if_neg (Nat.not_lt.mpr c_55)] | rw [if_neg (Nat.not_le.mpr c_55)] | rw [if_neg (i_nlt c_55)] | rw [if_neg (i_nle c_55)] | rw [if_pos (i_lt c_55)] | rw [if_pos (i_le c_55)]); (first | rw [if_pos c_67] | rw [if_neg c_67] | rw [if_neg (Nat.not_lt.mpr c_67)] | rw [if_neg (Nat.not_le.mpr c_67)] | rw [if_neg (i_nlt c_67)] | rw [if_neg (i_nle c_67)] | rw [if_pos (i_lt c_67)] | rw [if_pos (i_le c_67)]); (first | rw [if_pos c_79] | rw [if_neg c_79] | rw [if_neg (Nat.not_lt.mpr c_79)] | rw [if_neg (Nat.not_le.mpr c_79)] | rw [if_neg (i_nlt c_79)] | rw [if_neg (i_nle c_79)] | rw [if_pos (i_lt c_79)] | rw [if_pos (i_le c_79)]))
            · refine lv_aload_n hx hb dX7_play_82 rfl (lv_at hl 0 rfl) ?_
              refine va_get (D := D) (ci := 7) (v := .int y.2.2.2.2.2) (C := RX7) (T := TX7) (N := 34) hx hb hts hi_7 hown hK hP 0 rfl rfl 17 (by decide) hf_130 (fun _ h9 => h9) rfl dX7_play_83 ?_
              refine lv_goto (tgt := 93) hx hb dX7_play_86 (by decide) ?_
              exact endMI y hx hb hr hlocks hA hQ hS hP dX7_play_93 rfl (by unfold playR; (first | rw [if_pos c_5] | rw [if_neg c_5] | rw [if_neg (Nat.not_lt.mpr c_5)] | rw [if_neg (Nat.not_le.mpr c_5)] | rw [if_neg (i_nlt c_5)] | rw [if_neg (i_nle c_5)] | rw [if_pos (i_lt c_5)] | rw [if_pos (i_le c_5)]); (first | rw [if_pos c_17] | rw [if_neg c_17] | rw [if_neg (Nat.not_lt.mpr c_17)] | rw [if_neg (Nat.not_le.mpr c_17)] | rw [if_neg (i_nlt c_17)] | rw [if_neg (i_nle c_17)] | rw [if_pos (i_lt c_17)] | rw [if_pos (i_le c_17)]); (first | rw [if_pos c_32] | rw [if_neg c_32] | rw [if_neg (Nat.not_lt.mpr c_32)] | rw [if_neg (Nat.not_le.mpr c_32)] | rw [if_neg (i_nlt c_32)] | rw [if_neg (i_nle c_32)] | rw [if_pos (i_lt c_32)] | rw [if_pos (i_le c_32)]); (first | rw [if_pos c_55] | rw [if_neg c_55] | rw [if_neg (Nat.not_lt.mpr c_55)] | rw [if_neg (Nat.not_le.mpr c_55)] | rw [if_neg (i_nlt c_55)] | rw [if_neg (i_nle c_55)] | rw [if_pos (i_lt c_55)] | rw [if_pos (i_le c_55)]); (first | rw [if_pos c_67] | rw [if_neg c_67] | rw [if_neg (Nat.not_lt.mpr c_67)] | rw [if_neg (Nat.not_le.mpr c_67)] | rw [if_neg (i_nlt c_67)] | rw [if_neg (i_nle c_67)] | rw [if_pos (i_lt c_67)] | rw [if_pos (i_le c_67)]); (first | rw [if_pos c_79] | rw [if_neg c_79] | rw [if_neg (Nat.not_lt.mpr c_79)] | rw [if_neg (Nat.not_le.mpr c_79)] | rw [if_neg (i_nlt c_79)] | rw [if_neg (i_nle c_79)] | rw [if_pos (i_lt c_79)] | rw [if_pos (i_le c_79)]))
          · refine lv_aload_n hx hb dX7_play_70 rfl (lv_at hl 0 rfl) ?_
            refine va_get (D := D) (ci := 7) (v := .int y.2.1) (C := RX7) (T := TX7) (N := 34) hx hb hts hi_7 hown hK hP 0 rfl rfl 13 (by decide) hf_106 (fun _ h9 => h9) rfl dX7_play_71 ?_
            refine lv_goto (tgt := 93) hx hb dX7_play_74 (by decide) ?_
            exact endMI y hx hb hr hlocks hA hQ hS hP dX7_play_93 rfl (by unfold playR; (first | rw [if_pos c_5] | rw [if_neg c_5] | rw [if_neg (Nat.not_lt.mpr c_5)] | rw [if_neg (Nat.not_le.mpr c_5)] | rw [if_neg (i_nlt c_5)] | rw [if_neg (i_nle c_5)] | rw [if_pos (i_lt c_5)] | rw [if_pos (i_le c_5)]); (first | rw [if_pos c_17] | rw [if_neg c_17] | rw [if_neg (Nat.not_lt.mpr c_17)] | rw [if_neg (Nat.not_le.mpr c_17)] | rw [if_neg (i_nlt c_17)] | rw [if_neg (i_nle c_17)] | rw [if_pos (i_lt c_17)] | rw [if_pos (i_le c_17)]); (first | rw [if_pos c_32] | rw [if_neg c_32] | rw [if_neg (Nat.not_lt.mpr c_32)] | rw [if_neg (Nat.not_le.mpr c_32)] | rw [if_neg (i_nlt c_32)] | rw [if_neg (i_nle c_32)] | rw [if_pos (i_lt c_32)] | rw [if_pos (i_le c_32)]); (first | rw [if_pos c_55] | rw [if_neg c_55] | rw [if_neg (Nat.not_lt.mpr c_55)] | rw [if_neg (Nat.not_le.mpr c_55)] | rw [if_neg (i_nlt c_55)] | rw [if_neg (i_nle c_55)] | rw [if_pos (i_lt c_55)] | rw [if_pos (i_le c_55)]); (first | rw [if_pos c_67] | rw [if_neg c_67] | rw [if_neg (Nat.not_lt.mpr c_67)] | rw [if_neg (Nat.not_le.mpr c_67)] | rw [if_neg (i_nlt c_67)] | rw [if_neg (i_nle c_67)] | rw [if_pos (i_lt c_67)] | rw [if_pos (i_le c_67)]))
        · refine lv_aload_n hx hb dX7_play_58 rfl (lv_at hl 0 rfl) ?_
          refine va_get (D := D) (ci := 7) (v := .int y.1) (C := RX7) (T := TX7) (N := 34) hx hb hts hi_7 hown hK hP 0 rfl rfl 12 (by decide) hf_103 (fun _ h9 => h9) rfl dX7_play_59 ?_
          refine lv_goto (tgt := 93) hx hb dX7_play_62 (by decide) ?_
          exact endMI y hx hb hr hlocks hA hQ hS hP dX7_play_93 rfl (by unfold playR; (first | rw [if_pos c_5] | rw [if_neg c_5] | rw [if_neg (Nat.not_lt.mpr c_5)] | rw [if_neg (Nat.not_le.mpr c_5)] | rw [if_neg (i_nlt c_5)] | rw [if_neg (i_nle c_5)] | rw [if_pos (i_lt c_5)] | rw [if_pos (i_le c_5)]); (first | rw [if_pos c_17] | rw [if_neg c_17] | rw [if_neg (Nat.not_lt.mpr c_17)] | rw [if_neg (Nat.not_le.mpr c_17)] | rw [if_neg (i_nlt c_17)] | rw [if_neg (i_nle c_17)] | rw [if_pos (i_lt c_17)] | rw [if_pos (i_le c_17)]); (first | rw [if_pos c_32] | rw [if_neg c_32] | rw [if_neg (Nat.not_lt.mpr c_32)] | rw [if_neg (Nat.not_le.mpr c_32)] | rw [if_neg (i_nlt c_32)] | rw [if_neg (i_nle c_32)] | rw [if_pos (i_lt c_32)] | rw [if_pos (i_le c_32)]); (first | rw [if_pos c_55] | rw [if_neg c_55] | rw [if_neg (Nat.not_lt.mpr c_55)] | rw [if_neg (Nat.not_le.mpr c_55)] | rw [if_neg (i_nlt c_55)] | rw [if_neg (i_nle c_55)] | rw [if_pos (i_lt c_55)] | rw [if_pos (i_le c_55)]))
      · refine lv_aload_n hx hb dX7_play_35 rfl (lv_at hl 0 rfl) ?_
        refine va_get (D := D) (ci := 7) (v := .int (zb (y.2.2.2.2.1 = true))) (C := RX7) (T := TX7) (N := 34) hx hb hts hi_7 hown hK hP 0 rfl rfl 16 (by decide) hf_127 (fun _ h9 => h9) rfl dX7_play_36 ?_
        refine r_zeq (tgt := 46) hx hb dX7_play_39 (by decide) (fun c_39 => ?_) (fun c_39 => ?_)
        · refine lv_aload_n hx hb dX7_play_46 rfl (lv_at hl 0 rfl) ?_
          refine goRI hP hS (va_runV (As := []) (rest := []) ⟨hx, hb, hml, hown, hts⟩ (kX7_saved l D cI cJ mo nn mm me mj mw mp mu ke bd ml sq mq y.1 y.2.1 y.2.2.1 y.2.2.2.1 y.2.2.2.2.1 y.2.2.2.2.2 m1 m2 m3 m4 lk sp bs bo m5 m6 m7 su sl m8 lo sh wo (by omega)) (cwV 0 hts gX7_play_X7_saved rfl rfl rfl kdX7_saved ⟨Nat.le_of_ble_eq_true rfl, Nat.le_of_ble_eq_true rfl⟩) (preRV hK hN hP 0 (ci := 7) rfl rfl rfl [0, 2] rfl) rfl rfl hl.1 rfl (lv_room (Nat.le_of_ble_eq_true rfl)) dX7_play_47 ⟨Nat.zero_le _, Nat.zero_le _⟩) (fun H locs hP hS => ?_)
          refine lv_goto (tgt := 93) hx hb dX7_play_50 (by decide) ?_
          exact endMI y hx hb hr hlocks hA hQ hS hP dX7_play_93 rfl (by unfold playR; (first | rw [if_pos c_5] | rw [if_neg c_5] | rw [if_neg (Nat.not_lt.mpr c_5)] | rw [if_neg (Nat.not_le.mpr c_5)] | rw [if_neg (i_nlt c_5)] | rw [if_neg (i_nle c_5)] | rw [if_pos (i_lt c_5)] | rw [if_pos (i_le c_5)]); (first | rw [if_pos c_17] | rw [if_neg c_17] | rw [if_neg (Nat.not_lt.mpr c_17)] | rw [if_neg (Nat.not_le.mpr c_17)] | rw [if_neg (i_nlt c_17)] | rw [if_neg (i_nle c_17)] | rw [if_pos (i_lt c_17)] | rw [if_pos (i_le c_17)]); (first | rw [if_pos c_32] | rw [if_neg c_32] | rw [if_neg (Nat.not_lt.mpr c_32)] | rw [if_neg (Nat.not_le.mpr c_32)] | rw [if_neg (i_nlt c_32)] | rw [if_neg (i_nle c_32)] | rw [if_pos (i_lt c_32)] | rw [if_pos (i_le c_32)]); (first | rw [if_pos c_39] | rw [if_neg c_39] | rw [if_neg (Nat.not_lt.mpr c_39)] | rw [if_neg (Nat.not_le.mpr c_39)] | rw [if_neg (i_nlt c_39)] | rw [if_neg (i_nle c_39)] | rw [if_pos (i_lt c_39)] | rw [if_pos (i_le c_39)]))
        · refine lv_iconst (v := (-1)) hx hb dX7_play_42 (by decide) ?_
          refine lv_goto (tgt := 93) hx hb dX7_play_43 (by decide) ?_
          exact endMI y hx hb hr hlocks hA hQ hS hP dX7_play_93 rfl (by unfold playR; (first | rw [if_pos c_5] | rw [if_neg c_5] | rw [if_neg (Nat.not_lt.mpr c_5)] | rw [if_neg (Nat.not_le.mpr c_5)] | rw [if_neg (i_nlt c_5)] | rw [if_neg (i_nle c_5)] | rw [if_pos (i_lt c_5)] | rw [if_pos (i_le c_5)]); (first | rw [if_pos c_17] | rw [if_neg c_17] | rw [if_neg (Nat.not_lt.mpr c_17)] | rw [if_neg (Nat.not_le.mpr c_17)] | rw [if_neg (i_nlt c_17)] | rw [if_neg (i_nle c_17)] | rw [if_pos (i_lt c_17)] | rw [if_pos (i_le c_17)]); (first | rw [if_pos c_32] | rw [if_neg c_32] | rw [if_neg (Nat.not_lt.mpr c_32)] | rw [if_neg (Nat.not_le.mpr c_32)] | rw [if_neg (i_nlt c_32)] | rw [if_neg (i_nle c_32)] | rw [if_pos (i_lt c_32)] | rw [if_pos (i_le c_32)]); (first | rw [if_pos c_39] | rw [if_neg c_39] | rw [if_neg (Nat.not_lt.mpr c_39)] | rw [if_neg (Nat.not_le.mpr c_39)] | rw [if_neg (i_nlt c_39)] | rw [if_neg (i_nle c_39)] | rw [if_pos (i_lt c_39)] | rw [if_pos (i_le c_39)]))
    · refine lv_sipush (v := (-1002)) hx hb dX7_play_20 (by decide) ?_
      exact endMI xm hx hb hr hlocks hA hQ hS hP dX7_play_23 rfl (by unfold playR; (first | rw [if_pos c_5] | rw [if_neg c_5] | rw [if_neg (Nat.not_lt.mpr c_5)] | rw [if_neg (Nat.not_le.mpr c_5)] | rw [if_neg (i_nlt c_5)] | rw [if_neg (i_nle c_5)] | rw [if_pos (i_lt c_5)] | rw [if_pos (i_le c_5)]); (first | rw [if_pos c_17] | rw [if_neg c_17] | rw [if_neg (Nat.not_lt.mpr c_17)] | rw [if_neg (Nat.not_le.mpr c_17)] | rw [if_neg (i_nlt c_17)] | rw [if_neg (i_nle c_17)] | rw [if_pos (i_lt c_17)] | rw [if_pos (i_le c_17)]))
def rmX7_burns : Room := { frames := 3, cells := 0, slots := 0, locals := 68 }
theorem kdX7_burns : yX7_burns.cls = RX7 ∧ yX7_burns.cls ≠ "java/lang/invoke/MethodHandle" ∧ yX7_burns.cls ≠ "java/lang/invoke/VarHandle" ∧ (parseMethodDescriptor yX7_burns.desc).map (fun d => d.parameters.length) = some 2 := ⟨rfl, by decide +kernel, by decide +kernel, by decide +kernel⟩
set_option maxRecDepth 100000 in
set_option maxHeartbeats 1000000 in
theorem kX7_burns (l : Launch) (D : va_G) (cI cJ : ClassId) (mo : Nat) (nn : Nat) (mm : Nat) (me : Nat) (mj : Nat) (mw : Nat) (mp : Nat) (mu : Nat) (ke : Bool) (bd : Int32) (ml : Nat) (sq : Nat) (mq : Nat) (xm : Pm) (m1 : Nat) (m2 : Nat) (m3 : Nat) (m4 : Nat) (lk : Int32) (sp : Bool) (bs : Int32) (bo : Int32) (m5 : Nat) (m6 : Nat) (m7 : Nat) (su : Int32) (sl : Int32) (m8 : Nat) (lo : Int32) (sh : Int32) (ne : Row) (pr : Row) (ow : Row) (pl : Row) (fire tick : Int32) (y : Pm) (hn10 : nn ≤ 10) (hy : y = playA nn pr ne ow pl ke fire tick.toNatClampNeg) : Met l yX7_burns wsX7_burns rmX7_burns (mPre D cI cJ [.ref mo, .int fire, .int tick] [(mo, .inr (7, moV (nI nn) (nI mm) me mj mw mp mu (zb (ke = true)) bd ml (nI sq) mq xm.1 xm.2.1 xm.2.2.1 xm.2.2.2.1 (zb (xm.2.2.2.2.1 = true)) xm.2.2.2.2.2 m1 m2 m3 m4 lk (zb (sp = true)) bs bo m5 m6 m7 su sl m8 lo sh)), (mj, .inl (cI, 10, .inl ne)), (mp, .inl (cI, 10, .inl pr)), (mu, .inl (cI, 9, .inl ow)), (ml, .inl (cI, 9, .inl pl))]) (mQi D (fun (r : Int32) (u : (Pm)) => r = (burnsR nn y fire tick)) (fun (u : (Pm)) => [(mo, .inr (7, moV (nI nn) (nI mm) me mj mw mp mu (zb (ke = true)) bd ml (nI sq) mq u.1 u.2.1 u.2.2.1 u.2.2.2.1 (zb (u.2.2.2.2.1 = true)) u.2.2.2.2.2 m1 m2 m3 m4 lk (zb (sp = true)) bs bo m5 m6 m7 su sl m8 lo sh)), (mj, .inl (cI, 10, .inl ne)), (mp, .inl (cI, 10, .inl pr)), (mu, .inl (cI, 9, .inl ow)), (ml, .inl (cI, 9, .inl pl))]) [(mo, .inr (7, moV (nI nn) (nI mm) me mj mw mp mu (zb (ke = true)) bd ml (nI sq) mq xm.1 xm.2.1 xm.2.2.1 xm.2.2.2.1 (zb (xm.2.2.2.2.1 = true)) xm.2.2.2.2.2 m1 m2 m3 m4 lk (zb (sp = true)) bs bo m5 m6 m7 su sl m8 lo sh)), (mj, .inl (cI, 10, .inl ne)), (mp, .inl (cI, 10, .inl pr)), (mu, .inl (cI, 9, .inl ow)), (ml, .inl (cI, 9, .inl pl))]) 0 0 (mA [(mo, .inr (7, moV (nI nn) (nI mm) me mj mw mp mu (zb (ke = true)) bd ml (nI sq) mq xm.1 xm.2.1 xm.2.2.1 xm.2.2.2.1 (zb (xm.2.2.2.2.1 = true)) xm.2.2.2.2.2 m1 m2 m3 m4 lk (zb (sp = true)) bs bo m5 m6 m7 su sl m8 lo sh)), (mj, .inl (cI, 10, .inl ne)), (mp, .inl (cI, 10, .inl pr)), (mu, .inl (cI, 9, .inl ow)), (ml, .inl (cI, 9, .inl pl))]) := by
  refine startM (cc := cX7_burns) (maxL := 3) (ret := (some .int)) (by decide) rfl (Nat.le_of_ble_eq_true rfl) ?_
  intro p e s m args below meth c ls Q A hA hQ hx hb hr hlocks hml hown hts hK hN hP hD hl hin
  have hown : s.vm.findClass RX7 = some m.cls := hown
  have hi_7 : ∀ w ∈ wsX70, w ∈ wsX7_burns := by decide +kernel
  have hf_103 := hts (.fieldLink RX7 103 "FireNetsModel" "fire" "I") (by decide +kernel)
  have hc_86 := hts (.constantLong RX7 86 (20)) (by decide +kernel)
  have hS : va_S A s.heap s.heap [] := va_S.rf
  have hl : lv_has ls 3 [(0, .ref mo), (1, .int fire), (2, .int tick)] := hl
  have hP : va_P D vwCl [(mo, .inr (7, moV (nI nn) (nI mm) me mj mw mp mu (zb (ke = true)) bd ml (nI sq) mq xm.1 xm.2.1 xm.2.2.1 xm.2.2.2.1 (zb (xm.2.2.2.2.1 = true)) xm.2.2.2.2.2 m1 m2 m3 m4 lk (zb (sp = true)) bs bo m5 m6 m7 su sl m8 lo sh)), (mj, .inl (cI, 10, .inl ne)), (mp, .inl (cI, 10, .inl pr)), (mu, .inl (cI, 9, .inl ow)), (ml, .inl (cI, 9, .inl pl))] s.heap := hP
  refine lv_aload_n hx hb dX7_burns_0 rfl (lv_at hl 0 rfl) ?_
  refine lv_iload_n hx hb dX7_burns_1 rfl (lv_at hl 1 rfl) ?_
  refine goRI hP hS (va_runV (As := [.int fire]) (rest := []) ⟨hx, hb, hml, hown, hts⟩ (kX7_isFire l D cI cJ mo nn mm me mj mw mp mu ke bd ml sq mq xm.1 xm.2.1 xm.2.2.1 xm.2.2.2.1 xm.2.2.2.2.1 xm.2.2.2.2.2 m1 m2 m3 m4 lk sp bs bo m5 m6 m7 su sl m8 lo sh fire) (cwV 1 hts gX7_burns_X7_isFire rfl rfl rfl kdX7_isFire ⟨Nat.le_of_ble_eq_true rfl, Nat.le_of_ble_eq_true rfl⟩) (preRV hK hN hP 0 (ci := 7) rfl rfl rfl [0] rfl) rfl rfl hl.1 rfl (lv_room (Nat.le_of_ble_eq_true rfl)) dX7_burns_2 ⟨Nat.zero_le _, Nat.zero_le _⟩) (fun H locs hP hS => ?_)
  refine r_zeq (tgt := 20) hx hb dX7_burns_5 (by decide) (fun c_5 => ?_) (fun c_5 => ?_)
  · refine lv_sipush (v := (-1002)) hx hb dX7_burns_20 (by decide) ?_
    exact endMI xm hx hb hr hlocks hA hQ hS hP dX7_burns_23 rfl (by unfold burnsR; (first | rw [if_pos c_5] | rw [if_neg c_5] | rw [if_neg (Nat.not_lt.mpr c_5)] | rw [if_neg (Nat.not_le.mpr c_5)] | rw [if_neg (i_nlt c_5)] | rw [if_neg (i_nle c_5)] | rw [if_pos (i_lt c_5)] | rw [if_pos (i_le c_5)]))
  · refine lv_iload_n hx hb dX7_burns_8 rfl (lv_at hl 2 rfl) ?_
    refine lv_i2l (v := tick.toInt64) hx hb dX7_burns_9 rfl ?_
    refine lv_lconst (v := 0) hx hb dX7_burns_10 (by decide) ?_
    refine lv_ldc2 (v := 20) hx hb hown hc_86 dX7_burns_11 ?_
    refine goRI hP hS (va_runS (As := [.long tick.toInt64, .long 0, .long 20]) (rest := []) ⟨hx, hb, hml, hown, hts⟩ (kX7_in l D cI cJ tick.toInt64 0 20) (va_cwS 3 hts gX7_burns_X7_in rfl rfl rfl kdX7_in.2 ⟨Nat.le_of_ble_eq_true rfl, Nat.le_of_ble_eq_true rfl⟩) (preR hK hN hP [] rfl) rfl rfl hl.1 rfl (lv_room (Nat.le_of_ble_eq_true rfl)) dX7_burns_14 ⟨Nat.zero_le _, Nat.zero_le _⟩) (fun H locs hP hS => ?_)
    refine r_top (x' := zb (0 ≤ tick ∧ tick ≤ 20)) (zb_iff (in_c (by first | rfl | decide) (by first | rfl | decide))) ?_
    refine r_zne (tgt := 24) hx hb dX7_burns_17 (by decide) (fun c_17 => ?_) (fun c_17 => ?_)
    · obtain ⟨tk, htk, rfl⟩ := (tick20_ix c_17)
      refine lv_aload_n hx hb dX7_burns_24 rfl (lv_at hl 0 rfl) ?_
      refine lv_iload_n hx hb dX7_burns_25 rfl (lv_at hl 1 rfl) ?_
      refine lv_iload_n hx hb dX7_burns_26 rfl (lv_at hl 2 rfl) ?_
      refine goMV hP hD hS (va_runV (As := [.int fire, .int (nI tk)]) (rest := []) ⟨hx, hb, hml, hown, hts⟩ (kX7_playTo l D cI cJ mo nn mm me mj mw mp mu ke bd ml sq mq xm m1 m2 m3 m4 lk sp bs bo m5 m6 m7 su sl m8 lo sh ne pr ow pl fire tk y (by omega) (by omega) (by rw [hy, nI_clamp (by omega)])) (cwV 2 hts gX7_burns_X7_playTo rfl rfl rfl kdX7_playTo ⟨Nat.le_of_ble_eq_true rfl, Nat.le_of_ble_eq_true rfl⟩) (preMV hK hN hP hD 0 (ci := 7) rfl rfl rfl [0, 1, 2, 3, 4] rfl (by decide)) rfl rfl hl.1 rfl (lv_room (Nat.le_of_ble_eq_true rfl)) dX7_burns_27 ⟨Nat.zero_le _, Nat.zero_le _⟩) [0, 1, 2, 3, 4] rfl (by decide) (fun _ => (show ([mo, mj, mp, mu, ml] : List Nat) = [mo, mj, mp, mu, ml] from rfl)) (fun _ H locs hp_27 hP hD hS => ?_)
      have hP : va_P D vwCl [(mo, .inr (7, moV (nI nn) (nI mm) me mj mw mp mu (zb (ke = true)) bd ml (nI sq) mq y.1 y.2.1 y.2.2.1 y.2.2.2.1 (zb (y.2.2.2.2.1 = true)) y.2.2.2.2.2 m1 m2 m3 m4 lk (zb (sp = true)) bs bo m5 m6 m7 su sl m8 lo sh)), (mj, .inl (cI, 10, .inl ne)), (mp, .inl (cI, 10, .inl pr)), (mu, .inl (cI, 9, .inl ow)), (ml, .inl (cI, 9, .inl pl))] H := hP
      have hD : va_D A [(mo, .inr (7, moV (nI nn) (nI mm) me mj mw mp mu (zb (ke = true)) bd ml (nI sq) mq y.1 y.2.1 y.2.2.1 y.2.2.2.1 (zb (y.2.2.2.2.1 = true)) y.2.2.2.2.2 m1 m2 m3 m4 lk (zb (sp = true)) bs bo m5 m6 m7 su sl m8 lo sh)), (mj, .inl (cI, 10, .inl ne)), (mp, .inl (cI, 10, .inl pr)), (mu, .inl (cI, 9, .inl ow)), (ml, .inl (cI, 9, .inl pl))] := hD
      refine lv_aload_n hx hb dX7_burns_30 rfl (lv_at hl 0 rfl) ?_
      refine va_get (D := D) (ci := 7) (v := .int y.1) (C := RX7) (T := TX7) (N := 34) hx hb hts hi_7 hown hK hP 0 rfl rfl 12 (by decide) hf_103 (fun _ h9 => h9) rfl dX7_burns_31 ?_
      exact endMI y hx hb hr hlocks hA hQ hS hP dX7_burns_34 rfl (by unfold burnsR; (first | rw [if_pos c_5] | rw [if_neg c_5] | rw [if_neg (Nat.not_lt.mpr c_5)] | rw [if_neg (Nat.not_le.mpr c_5)] | rw [if_neg (i_nlt c_5)] | rw [if_neg (i_nle c_5)] | rw [if_pos (i_lt c_5)] | rw [if_pos (i_le c_5)]); (first | rw [if_pos c_17] | rw [if_neg c_17] | rw [if_neg (Nat.not_lt.mpr c_17)] | rw [if_neg (Nat.not_le.mpr c_17)] | rw [if_neg (i_nlt c_17)] | rw [if_neg (i_nle c_17)] | rw [if_pos (i_lt c_17)] | rw [if_pos (i_le c_17)]))
    · refine lv_sipush (v := (-1002)) hx hb dX7_burns_20 (by decide) ?_
      exact endMI xm hx hb hr hlocks hA hQ hS hP dX7_burns_23 rfl (by unfold burnsR; (first | rw [if_pos c_5] | rw [if_neg c_5] | rw [if_neg (Nat.not_lt.mpr c_5)] | rw [if_neg (Nat.not_le.mpr c_5)] | rw [if_neg (i_nlt c_5)] | rw [if_neg (i_nle c_5)] | rw [if_pos (i_lt c_5)] | rw [if_pos (i_le c_5)]); (first | rw [if_pos c_17] | rw [if_neg c_17] | rw [if_neg (Nat.not_lt.mpr c_17)] | rw [if_neg (Nat.not_le.mpr c_17)] | rw [if_neg (i_nlt c_17)] | rw [if_neg (i_nle c_17)] | rw [if_pos (i_lt c_17)] | rw [if_pos (i_le c_17)]))

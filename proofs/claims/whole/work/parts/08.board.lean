/-! the board -/
abbrev RowL := Nat → Int64
def isWB (wx wy : Row) (x y : Int32) : Nat → Bool
  | 0 => false
  | k + 1 => isWB wx wy x y k || (decide (wx k = x) && decide (wy k = y))
theorem isWB_mono {wx wy : Row} {x y : Int32} {k : Nat} (h : isWB wx wy x y k = true) : ∀ j, isWB wx wy x y (k + j) = true
  | 0 => h
  | j + 1 => by
    show (isWB wx wy x y (k + j) || _) = true
    rw [isWB_mono h j]
    rfl
def cntA (wt : Row) (t : Int32) : Nat → Int32
  | 0 => 0
  | k + 1 => if wt k = t then cntA wt t k + 1 else cntA wt t k
def needA (wt : Row) (sq : Nat) : Nat → Int32
  | 0 => 0
  | t + 1 => if needA wt sq t < cntA wt (nI (t + 1)) sq then cntA wt (nI (t + 1)) sq else needA wt sq t
abbrev Gs := Int32 × RowL
def pgS (bu : RowL) (r : Nat) (q : Int64) (x : Gs) : Gs := if lg_cmp (bu r &&& q) 0 = 0 then (x.1, vp_updL x.2 r (x.2 r ||| q)) else (x.1 + 1, x.2)
def onR (v : Int32) : Prop := -24 ≤ v ∧ v ≤ 24
def pgA (bu : RowL) (wx wy wt : Row) (t : Int32) (x : Gs) : Nat → Gs
  | 0 => x
  | k + 1 => if wt k = t ∧ (-24 ≤ wx k ∧ wx k ≤ 24) ∧ (-24 ≤ wy k ∧ wy k ≤ 24) then pgS bu (wy k + 24).toNatClampNeg ((1 : Int64) <<< ((wx k + 24).toInt64 &&& 63)) (pgA bu wx wy wt t x k) else pgA bu wx wy wt t x k
theorem row_ix {y : Int32} (h : -24 ≤ y ∧ y ≤ 24) : ∃ r : Nat, r < 49 ∧ y + 24 = nI r := by
  have h1 := Int32.le_iff_toInt_le.mp h.1
  have h2 := Int32.le_iff_toInt_le.mp h.2
  have e1 : (-24 : Int32).toInt = -24 := rfl
  have e2 : (24 : Int32).toInt = 24 := rfl
  rw [e1] at h1
  rw [e2] at h2
  refine ⟨(y.toInt + 24).toNat, by omega, ?_⟩
  apply Int32.toInt_inj.mp
  rw [nI_toInt (by omega), Int32.toInt_add, e2, Int.bmod_eq_of_le (by omega) (by omega)]
  omega
def rowI (bu : RowL) (j : Int32) : Int64 := if j < 0 then 0 else if j < 49 then bu j.toNatClampNeg else 0
def sprR (bu gd : RowL) (k : Nat) : Int64 :=
  bu k ||| ((((bu k <<< ((1 : Int32).toInt64 &&& 63)) ||| ((bu k).toUInt64 >>> ((1 : Int32).toInt64.toUInt64 &&& Int64.toUInt64 63)).toInt64) ||| rowI bu (nI k - 1)) ||| rowI bu (nI (k + 1))) &&& (gd k ^^^ (-1))
def aftA (bu gd af : RowL) (k : Nat) : RowL := fun j => if j < k then sprR bu gd j else af j
theorem aftA_0 (bu gd af : RowL) : aftA bu gd af 0 = af := by
  funext j
  simp [aftA]
theorem aftA_S (bu gd af : RowL) (k : Nat) : aftA bu gd af (k + 1) = vp_updL (aftA bu gd af k) k (sprR bu gd k) := by
  funext j
  simp only [aftA, vp_updL]
  by_cases hj : j = k
  · subst hj
    simp
  · rw [if_neg hj]
    by_cases h2 : j < k
    · rw [if_pos h2, if_pos (by omega)]
    · rw [if_neg h2, if_neg (by omega)]
def moreA (bu gd : RowL) : Nat → Bool
  | 0 => false
  | k + 1 => if lg_cmp (sprR bu gd k) (bu k) = 0 then moreA bu gd k else true
/-- shutIn, lost, burning, after, guarded -/
abbrev Bs := Int32 × Int32 × RowL × RowL × RowL
def pgB (wx wy wt : Row) (sq : Nat) (t : Int32) (x : Bs) : Gs := pgA x.2.2.1 wx wy wt t (x.2.1, x.2.2.2.2) sq
def brnS (wx wy wt : Row) (sq : Nat) (t : Nat) (x : Bs) : Bs :=
  if moreA x.2.2.1 (pgB wx wy wt sq (nI t) x).2 49 = true
  then (x.1, (pgB wx wy wt sq (nI t) x).1, va_cpy (aftA x.2.2.1 (pgB wx wy wt sq (nI t) x).2 x.2.2.2.1 49) x.2.2.1 0 0 49, aftA x.2.2.1 (pgB wx wy wt sq (nI t) x).2 x.2.2.2.1 49, (pgB wx wy wt sq (nI t) x).2)
  else (nI t, (pgB wx wy wt sq (nI t) x).1, va_cpy (aftA x.2.2.1 (pgB wx wy wt sq (nI t) x).2 x.2.2.2.1 49) x.2.2.1 0 0 49, aftA x.2.2.1 (pgB wx wy wt sq (nI t) x).2 x.2.2.2.1 49, (pgB wx wy wt sq (nI t) x).2)
def brnL (wx wy wt : Row) (sq : Nat) : Nat → Nat → Bs → Bs
  | 0, _, x => x
  | f + 1, t, x => if x.1 = -1 then brnL wx wy wt sq f (t + 1) (brnS wx wy wt sq t x) else x
theorem brn_eq {wx wy wt : Row} {sq : Nat} {a b : Bs} (h : a = b) : brnL wx wy wt sq (25 - 1) 1 a = brnL wx wy wt sq 24 1 b := by rw [h]
def brn0 (bu af gd : RowL) : Bs := (-1, 0, vp_updL (fillF bu 0 49) 24 16777216, af, fillF gd 0 49)
def popL (x : Int64) : Int32 :=
  let a := x - ((x.toUInt64 >>> ((1 : Int32).toInt64.toUInt64 &&& Int64.toUInt64 63)).toInt64 &&& 6148914691236517205)
  let b := (a &&& 3689348814741910323) + ((a.toUInt64 >>> ((2 : Int32).toInt64.toUInt64 &&& Int64.toUInt64 63)).toInt64 &&& 3689348814741910323)
  let c := (b + (b.toUInt64 >>> ((4 : Int32).toInt64.toUInt64 &&& Int64.toUInt64 63)).toInt64) &&& 1085102592571150095
  let d := c + (c.toUInt64 >>> ((8 : Int32).toInt64.toUInt64 &&& Int64.toUInt64 63)).toInt64
  let e := d + (d.toUInt64 >>> ((16 : Int32).toInt64.toUInt64 &&& Int64.toUInt64 63)).toInt64
  let f := e + (e.toUInt64 >>> ((32 : Int32).toInt64.toUInt64 &&& Int64.toUInt64 63)).toInt64
  f.toInt32 &&& 127
def brtA (bu : RowL) : Nat → Int32
  | 0 => 0
  | k + 1 => brtA bu k + popL (bu k)
def absI (x : Int32) : Int32 := if 0 ≤ x then x else 0 - x
def maxI (x y : Int32) : Int32 := if x < y then y else x
def rchR (bu : RowL) (r : Nat) (m : Int32) : Nat → Int32
  | 0 => m
  | c + 1 => if lg_cmp ((bu r >>> ((nI c).toInt64 &&& 63)) &&& 1) 0 = 0 then rchR bu r m c else maxI (rchR bu r m c) (absI (nI r - 24) + absI (nI c - 24))
def rchA (bu : RowL) : Nat → Int32
  | 0 => 0
  | r + 1 => rchR bu r (rchA bu r) 49
def rmJ13_bitCount_95d88 : Room := { frames := 0, cells := 0, slots := 0, locals := 0 }
theorem kdJ13_bitCount_95d88 : yJ13_bitCount_95d88.cls = RJ13 ∧ yJ13_bitCount_95d88.cls ≠ "java/lang/invoke/MethodHandle" ∧ yJ13_bitCount_95d88.cls ≠ "java/lang/invoke/VarHandle" ∧ (parseMethodDescriptor yJ13_bitCount_95d88.desc).map (fun d => d.parameters.length) = some 1 := ⟨rfl, by decide +kernel, by decide +kernel, by decide +kernel⟩
set_option maxRecDepth 100000 in
set_option maxHeartbeats 1000000 in
theorem kJ13_bitCount_95d88 (l : Launch) (D : va_G) (cI cJ : ClassId) (v : Int64)  : Met l yJ13_bitCount_95d88 wsJ13_bitCount_95d88 rmJ13_bitCount_95d88 (rPre D cI cJ [.long v] []) (qRI (popL v)) 0 0 nA := by
  refine startR (cc := cJ13_bitCount_95d88) (maxL := 2) (ret := (some .int)) (by decide) rfl (Nat.le_of_ble_eq_true rfl) ?_
  intro p e s m args below meth c ls Q hQ hx hb hr hlocks hml hown hts hK hN hP hl hin
  have hown : s.vm.findClass RJ13 = some m.cls := hown
  have hc_314 := hts (.constantLong RJ13 314 (6148914691236517205)) (by decide +kernel)
  have hc_316 := hts (.constantLong RJ13 316 (3689348814741910323)) (by decide +kernel)
  have hc_318 := hts (.constantLong RJ13 318 (1085102592571150095)) (by decide +kernel)
  have hS : va_S nA s.heap s.heap [] := va_S.rf
  have hl : lv_has ls 2 [(0, .long v)] := hl
  have hP : va_P D vwCl [] s.heap := hP
  refine lv_lload_n hx hb dJ13_bitCount_95d88_0 rfl (lv_at hl 0 rfl) ?_
  refine lv_lload_n hx hb dJ13_bitCount_95d88_1 rfl (lv_at hl 0 rfl) ?_
  refine lv_iconst (v := 1) hx hb dJ13_bitCount_95d88_2 (by decide) ?_
  refine lv_lushr (v := (v.toUInt64 >>> ((1 : Int32).toInt64.toUInt64 &&& Int64.toUInt64 63)).toInt64) hx hb dJ13_bitCount_95d88_3 rfl ?_
  refine lv_ldc2 (v := 6148914691236517205) hx hb hown hc_314 dJ13_bitCount_95d88_4 ?_
  refine lv_land hx hb dJ13_bitCount_95d88_7 ?_
  refine lv_lsub hx hb dJ13_bitCount_95d88_8 ?_
  refine lv_lstore_n (lv' := [(0, .long (v - (((v.toUInt64 >>> ((1 : Int32).toInt64.toUInt64 &&& Int64.toUInt64 63)).toInt64) &&& 6148914691236517205)))]) hx hb dJ13_bitCount_95d88_9 rfl hl (by decide) rfl (fun ls hl => ?_)
  refine lv_lload_n hx hb dJ13_bitCount_95d88_10 rfl (lv_at hl 0 rfl) ?_
  refine lv_ldc2 (v := 3689348814741910323) hx hb hown hc_316 dJ13_bitCount_95d88_11 ?_
  refine lv_land hx hb dJ13_bitCount_95d88_14 ?_
  refine lv_lload_n hx hb dJ13_bitCount_95d88_15 rfl (lv_at hl 0 rfl) ?_
  refine lv_iconst (v := 2) hx hb dJ13_bitCount_95d88_16 (by decide) ?_
  refine lv_lushr (v := ((v - (((v.toUInt64 >>> ((1 : Int32).toInt64.toUInt64 &&& Int64.toUInt64 63)).toInt64) &&& 6148914691236517205)).toUInt64 >>> ((2 : Int32).toInt64.toUInt64 &&& Int64.toUInt64 63)).toInt64) hx hb dJ13_bitCount_95d88_17 rfl ?_
  refine lv_ldc2 (v := 3689348814741910323) hx hb hown hc_316 dJ13_bitCount_95d88_18 ?_
  refine lv_land hx hb dJ13_bitCount_95d88_21 ?_
  refine lv_ladd hx hb dJ13_bitCount_95d88_22 ?_
  refine lv_lstore_n (lv' := [(0, .long (((v - (((v.toUInt64 >>> ((1 : Int32).toInt64.toUInt64 &&& Int64.toUInt64 63)).toInt64) &&& 6148914691236517205)) &&& 3689348814741910323) + ((((v - (((v.toUInt64 >>> ((1 : Int32).toInt64.toUInt64 &&& Int64.toUInt64 63)).toInt64) &&& 6148914691236517205)).toUInt64 >>> ((2 : Int32).toInt64.toUInt64 &&& Int64.toUInt64 63)).toInt64) &&& 3689348814741910323)))]) hx hb dJ13_bitCount_95d88_23 rfl hl (by decide) rfl (fun ls hl => ?_)
  refine lv_lload_n hx hb dJ13_bitCount_95d88_24 rfl (lv_at hl 0 rfl) ?_
  refine lv_lload_n hx hb dJ13_bitCount_95d88_25 rfl (lv_at hl 0 rfl) ?_
  refine lv_iconst (v := 4) hx hb dJ13_bitCount_95d88_26 (by decide) ?_
  refine lv_lushr (v := ((((v - (((v.toUInt64 >>> ((1 : Int32).toInt64.toUInt64 &&& Int64.toUInt64 63)).toInt64) &&& 6148914691236517205)) &&& 3689348814741910323) + ((((v - (((v.toUInt64 >>> ((1 : Int32).toInt64.toUInt64 &&& Int64.toUInt64 63)).toInt64) &&& 6148914691236517205)).toUInt64 >>> ((2 : Int32).toInt64.toUInt64 &&& Int64.toUInt64 63)).toInt64) &&& 3689348814741910323)).toUInt64 >>> ((4 : Int32).toInt64.toUInt64 &&& Int64.toUInt64 63)).toInt64) hx hb dJ13_bitCount_95d88_27 rfl ?_
  refine lv_ladd hx hb dJ13_bitCount_95d88_28 ?_
  refine lv_ldc2 (v := 1085102592571150095) hx hb hown hc_318 dJ13_bitCount_95d88_29 ?_
  refine lv_land hx hb dJ13_bitCount_95d88_32 ?_
  refine lv_lstore_n (lv' := [(0, .long (((((v - (((v.toUInt64 >>> ((1 : Int32).toInt64.toUInt64 &&& Int64.toUInt64 63)).toInt64) &&& 6148914691236517205)) &&& 3689348814741910323) + ((((v - (((v.toUInt64 >>> ((1 : Int32).toInt64.toUInt64 &&& Int64.toUInt64 63)).toInt64) &&& 6148914691236517205)).toUInt64 >>> ((2 : Int32).toInt64.toUInt64 &&& Int64.toUInt64 63)).toInt64) &&& 3689348814741910323)) + (((((v - (((v.toUInt64 >>> ((1 : Int32).toInt64.toUInt64 &&& Int64.toUInt64 63)).toInt64) &&& 6148914691236517205)) &&& 3689348814741910323) + ((((v - (((v.toUInt64 >>> ((1 : Int32).toInt64.toUInt64 &&& Int64.toUInt64 63)).toInt64) &&& 6148914691236517205)).toUInt64 >>> ((2 : Int32).toInt64.toUInt64 &&& Int64.toUInt64 63)).toInt64) &&& 3689348814741910323)).toUInt64 >>> ((4 : Int32).toInt64.toUInt64 &&& Int64.toUInt64 63)).toInt64)) &&& 1085102592571150095))]) hx hb dJ13_bitCount_95d88_33 rfl hl (by decide) rfl (fun ls hl => ?_)
  refine lv_lload_n hx hb dJ13_bitCount_95d88_34 rfl (lv_at hl 0 rfl) ?_
  refine lv_lload_n hx hb dJ13_bitCount_95d88_35 rfl (lv_at hl 0 rfl) ?_
  refine lv_bipush (v := 8) hx hb dJ13_bitCount_95d88_36 (by decide) ?_
  refine lv_lushr (v := ((((((v - (((v.toUInt64 >>> ((1 : Int32).toInt64.toUInt64 &&& Int64.toUInt64 63)).toInt64) &&& 6148914691236517205)) &&& 3689348814741910323) + ((((v - (((v.toUInt64 >>> ((1 : Int32).toInt64.toUInt64 &&& Int64.toUInt64 63)).toInt64) &&& 6148914691236517205)).toUInt64 >>> ((2 : Int32).toInt64.toUInt64 &&& Int64.toUInt64 63)).toInt64) &&& 3689348814741910323)) + (((((v - (((v.toUInt64 >>> ((1 : Int32).toInt64.toUInt64 &&& Int64.toUInt64 63)).toInt64) &&& 6148914691236517205)) &&& 3689348814741910323) + ((((v - (((v.toUInt64 >>> ((1 : Int32).toInt64.toUInt64 &&& Int64.toUInt64 63)).toInt64) &&& 6148914691236517205)).toUInt64 >>> ((2 : Int32).toInt64.toUInt64 &&& Int64.toUInt64 63)).toInt64) &&& 3689348814741910323)).toUInt64 >>> ((4 : Int32).toInt64.toUInt64 &&& Int64.toUInt64 63)).toInt64)) &&& 1085102592571150095).toUInt64 >>> ((8 : Int32).toInt64.toUInt64 &&& Int64.toUInt64 63)).toInt64) hx hb dJ13_bitCount_95d88_38 rfl ?_
  refine lv_ladd hx hb dJ13_bitCount_95d88_39 ?_
  refine lv_lstore_n (lv' := [(0, .long ((((((v - (((v.toUInt64 >>> ((1 : Int32).toInt64.toUInt64 &&& Int64.toUInt64 63)).toInt64) &&& 6148914691236517205)) &&& 3689348814741910323) + ((((v - (((v.toUInt64 >>> ((1 : Int32).toInt64.toUInt64 &&& Int64.toUInt64 63)).toInt64) &&& 6148914691236517205)).toUInt64 >>> ((2 : Int32).toInt64.toUInt64 &&& Int64.toUInt64 63)).toInt64) &&& 3689348814741910323)) + (((((v - (((v.toUInt64 >>> ((1 : Int32).toInt64.toUInt64 &&& Int64.toUInt64 63)).toInt64) &&& 6148914691236517205)) &&& 3689348814741910323) + ((((v - (((v.toUInt64 >>> ((1 : Int32).toInt64.toUInt64 &&& Int64.toUInt64 63)).toInt64) &&& 6148914691236517205)).toUInt64 >>> ((2 : Int32).toInt64.toUInt64 &&& Int64.toUInt64 63)).toInt64) &&& 3689348814741910323)).toUInt64 >>> ((4 : Int32).toInt64.toUInt64 &&& Int64.toUInt64 63)).toInt64)) &&& 1085102592571150095) + (((((((v - (((v.toUInt64 >>> ((1 : Int32).toInt64.toUInt64 &&& Int64.toUInt64 63)).toInt64) &&& 6148914691236517205)) &&& 3689348814741910323) + ((((v - (((v.toUInt64 >>> ((1 : Int32).toInt64.toUInt64 &&& Int64.toUInt64 63)).toInt64) &&& 6148914691236517205)).toUInt64 >>> ((2 : Int32).toInt64.toUInt64 &&& Int64.toUInt64 63)).toInt64) &&& 3689348814741910323)) + (((((v - (((v.toUInt64 >>> ((1 : Int32).toInt64.toUInt64 &&& Int64.toUInt64 63)).toInt64) &&& 6148914691236517205)) &&& 3689348814741910323) + ((((v - (((v.toUInt64 >>> ((1 : Int32).toInt64.toUInt64 &&& Int64.toUInt64 63)).toInt64) &&& 6148914691236517205)).toUInt64 >>> ((2 : Int32).toInt64.toUInt64 &&& Int64.toUInt64 63)).toInt64) &&& 3689348814741910323)).toUInt64 >>> ((4 : Int32).toInt64.toUInt64 &&& Int64.toUInt64 63)).toInt64)) &&& 1085102592571150095).toUInt64 >>> ((8 : Int32).toInt64.toUInt64 &&& Int64.toUInt64 63)).toInt64)))]) hx hb dJ13_bitCount_95d88_40 rfl hl (by decide) rfl (fun ls hl => ?_)
  refine lv_lload_n hx hb dJ13_bitCount_95d88_41 rfl (lv_at hl 0 rfl) ?_
  refine lv_lload_n hx hb dJ13_bitCount_95d88_42 rfl (lv_at hl 0 rfl) ?_
  refine lv_bipush (v := 16) hx hb dJ13_bitCount_95d88_43 (by decide) ?_
  refine lv_lushr (v := (((((((v - (((v.toUInt64 >>> ((1 : Int32).toInt64.toUInt64 &&& Int64.toUInt64 63)).toInt64) &&& 6148914691236517205)) &&& 3689348814741910323) + ((((v - (((v.toUInt64 >>> ((1 : Int32).toInt64.toUInt64 &&& Int64.toUInt64 63)).toInt64) &&& 6148914691236517205)).toUInt64 >>> ((2 : Int32).toInt64.toUInt64 &&& Int64.toUInt64 63)).toInt64) &&& 3689348814741910323)) + (((((v - (((v.toUInt64 >>> ((1 : Int32).toInt64.toUInt64 &&& Int64.toUInt64 63)).toInt64) &&& 6148914691236517205)) &&& 3689348814741910323) + ((((v - (((v.toUInt64 >>> ((1 : Int32).toInt64.toUInt64 &&& Int64.toUInt64 63)).toInt64) &&& 6148914691236517205)).toUInt64 >>> ((2 : Int32).toInt64.toUInt64 &&& Int64.toUInt64 63)).toInt64) &&& 3689348814741910323)).toUInt64 >>> ((4 : Int32).toInt64.toUInt64 &&& Int64.toUInt64 63)).toInt64)) &&& 1085102592571150095) + (((((((v - (((v.toUInt64 >>> ((1 : Int32).toInt64.toUInt64 &&& Int64.toUInt64 63)).toInt64) &&& 6148914691236517205)) &&& 3689348814741910323) + ((((v - (((v.toUInt64 >>> ((1 : Int32).toInt64.toUInt64 &&& Int64.toUInt64 63)).toInt64) &&& 6148914691236517205)).toUInt64 >>> ((2 : Int32).toInt64.toUInt64 &&& Int64.toUInt64 63)).toInt64) &&& 3689348814741910323)) + (((((v - (((v.toUInt64 >>> ((1 : Int32).toInt64.toUInt64 &&& Int64.toUInt64 63)).toInt64) &&& 6148914691236517205)) &&& 3689348814741910323) + ((((v - (((v.toUInt64 >>> ((1 : Int32).toInt64.toUInt64 &&& Int64.toUInt64 63)).toInt64) &&& 6148914691236517205)).toUInt64 >>> ((2 : Int32).toInt64.toUInt64 &&& Int64.toUInt64 63)).toInt64) &&& 3689348814741910323)).toUInt64 >>> ((4 : Int32).toInt64.toUInt64 &&& Int64.toUInt64 63)).toInt64)) &&& 1085102592571150095).toUInt64 >>> ((8 : Int32).toInt64.toUInt64 &&& Int64.toUInt64 63)).toInt64)).toUInt64 >>> ((16 : Int32).toInt64.toUInt64 &&& Int64.toUInt64 63)).toInt64) hx hb dJ13_bitCount_95d88_45 rfl ?_
  refine lv_ladd hx hb dJ13_bitCount_95d88_46 ?_
  refine lv_lstore_n (lv' := [(0, .long (((((((v - (((v.toUInt64 >>> ((1 : Int32).toInt64.toUInt64 &&& Int64.toUInt64 63)).toInt64) &&& 6148914691236517205)) &&& 3689348814741910323) + ((((v - (((v.toUInt64 >>> ((1 : Int32).toInt64.toUInt64 &&& Int64.toUInt64 63)).toInt64) &&& 6148914691236517205)).toUInt64 >>> ((2 : Int32).toInt64.toUInt64 &&& Int64.toUInt64 63)).toInt64) &&& 3689348814741910323)) + (((((v - (((v.toUInt64 >>> ((1 : Int32).toInt64.toUInt64 &&& Int64.toUInt64 63)).toInt64) &&& 6148914691236517205)) &&& 3689348814741910323) + ((((v - (((v.toUInt64 >>> ((1 : Int32).toInt64.toUInt64 &&& Int64.toUInt64 63)).toInt64) &&& 6148914691236517205)).toUInt64 >>> ((2 : Int32).toInt64.toUInt64 &&& Int64.toUInt64 63)).toInt64) &&& 3689348814741910323)).toUInt64 >>> ((4 : Int32).toInt64.toUInt64 &&& Int64.toUInt64 63)).toInt64)) &&& 1085102592571150095) + (((((((v - (((v.toUInt64 >>> ((1 : Int32).toInt64.toUInt64 &&& Int64.toUInt64 63)).toInt64) &&& 6148914691236517205)) &&& 3689348814741910323) + ((((v - (((v.toUInt64 >>> ((1 : Int32).toInt64.toUInt64 &&& Int64.toUInt64 63)).toInt64) &&& 6148914691236517205)).toUInt64 >>> ((2 : Int32).toInt64.toUInt64 &&& Int64.toUInt64 63)).toInt64) &&& 3689348814741910323)) + (((((v - (((v.toUInt64 >>> ((1 : Int32).toInt64.toUInt64 &&& Int64.toUInt64 63)).toInt64) &&& 6148914691236517205)) &&& 3689348814741910323) + ((((v - (((v.toUInt64 >>> ((1 : Int32).toInt64.toUInt64 &&& Int64.toUInt64 63)).toInt64) &&& 6148914691236517205)).toUInt64 >>> ((2 : Int32).toInt64.toUInt64 &&& Int64.toUInt64 63)).toInt64) &&& 3689348814741910323)).toUInt64 >>> ((4 : Int32).toInt64.toUInt64 &&& Int64.toUInt64 63)).toInt64)) &&& 1085102592571150095).toUInt64 >>> ((8 : Int32).toInt64.toUInt64 &&& Int64.toUInt64 63)).toInt64)) + ((((((((v - (((v.toUInt64 >>> ((1 : Int32).toInt64.toUInt64 &&& Int64.toUInt64 63)).toInt64) &&& 6148914691236517205)) &&& 3689348814741910323) + ((((v - (((v.toUInt64 >>> ((1 : Int32).toInt64.toUInt64 &&& Int64.toUInt64 63)).toInt64) &&& 6148914691236517205)).toUInt64 >>> ((2 : Int32).toInt64.toUInt64 &&& Int64.toUInt64 63)).toInt64) &&& 3689348814741910323)) + (((((v - (((v.toUInt64 >>> ((1 : Int32).toInt64.toUInt64 &&& Int64.toUInt64 63)).toInt64) &&& 6148914691236517205)) &&& 3689348814741910323) + ((((v - (((v.toUInt64 >>> ((1 : Int32).toInt64.toUInt64 &&& Int64.toUInt64 63)).toInt64) &&& 6148914691236517205)).toUInt64 >>> ((2 : Int32).toInt64.toUInt64 &&& Int64.toUInt64 63)).toInt64) &&& 3689348814741910323)).toUInt64 >>> ((4 : Int32).toInt64.toUInt64 &&& Int64.toUInt64 63)).toInt64)) &&& 1085102592571150095) + (((((((v - (((v.toUInt64 >>> ((1 : Int32).toInt64.toUInt64 &&& Int64.toUInt64 63)).toInt64) &&& 6148914691236517205)) &&& 3689348814741910323) + ((((v - (((v.toUInt64 >>> ((1 : Int32).toInt64.toUInt64 &&& Int64.toUInt64 63)).toInt64) &&& 6148914691236517205)).toUInt64 >>> ((2 : Int32).toInt64.toUInt64 &&& Int64.toUInt64 63)).toInt64) &&& 3689348814741910323)) + (((((v - (((v.toUInt64 >>> ((1 : Int32).toInt64.toUInt64 &&& Int64.toUInt64 63)).toInt64) &&& 6148914691236517205)) &&& 3689348814741910323) + ((((v - (((v.toUInt64 >>> ((1 : Int32).toInt64.toUInt64 &&& Int64.toUInt64 63)).toInt64) &&& 6148914691236517205)).toUInt64 >>> ((2 : Int32).toInt64.toUInt64 &&& Int64.toUInt64 63)).toInt64) &&& 3689348814741910323)).toUInt64 >>> ((4 : Int32).toInt64.toUInt64 &&& Int64.toUInt64 63)).toInt64)) &&& 1085102592571150095).toUInt64 >>> ((8 : Int32).toInt64.toUInt64 &&& Int64.toUInt64 63)).toInt64)).toUInt64 >>> ((16 : Int32).toInt64.toUInt64 &&& Int64.toUInt64 63)).toInt64)))]) hx hb dJ13_bitCount_95d88_47 rfl hl (by decide) rfl (fun ls hl => ?_)
  refine lv_lload_n hx hb dJ13_bitCount_95d88_48 rfl (lv_at hl 0 rfl) ?_
  refine lv_lload_n hx hb dJ13_bitCount_95d88_49 rfl (lv_at hl 0 rfl) ?_
  refine lv_bipush (v := 32) hx hb dJ13_bitCount_95d88_50 (by decide) ?_
  refine lv_lushr (v := ((((((((v - (((v.toUInt64 >>> ((1 : Int32).toInt64.toUInt64 &&& Int64.toUInt64 63)).toInt64) &&& 6148914691236517205)) &&& 3689348814741910323) + ((((v - (((v.toUInt64 >>> ((1 : Int32).toInt64.toUInt64 &&& Int64.toUInt64 63)).toInt64) &&& 6148914691236517205)).toUInt64 >>> ((2 : Int32).toInt64.toUInt64 &&& Int64.toUInt64 63)).toInt64) &&& 3689348814741910323)) + (((((v - (((v.toUInt64 >>> ((1 : Int32).toInt64.toUInt64 &&& Int64.toUInt64 63)).toInt64) &&& 6148914691236517205)) &&& 3689348814741910323) + ((((v - (((v.toUInt64 >>> ((1 : Int32).toInt64.toUInt64 &&& Int64.toUInt64 63)).toInt64) &&& 6148914691236517205)).toUInt64 >>> ((2 : Int32).toInt64.toUInt64 &&& Int64.toUInt64 63)).toInt64) &&& 3689348814741910323)).toUInt64 >>> ((4 : Int32).toInt64.toUInt64 &&& Int64.toUInt64 63)).toInt64)) &&& 1085102592571150095) + (((((((v - (((v.toUInt64 >>> ((1 : Int32).toInt64.toUInt64 &&& Int64.toUInt64 63)).toInt64) &&& 6148914691236517205)) &&& 3689348814741910323) + ((((v - (((v.toUInt64 >>> ((1 : Int32).toInt64.toUInt64 &&& Int64.toUInt64 63)).toInt64) &&& 6148914691236517205)).toUInt64 >>> ((2 : Int32).toInt64.toUInt64 &&& Int64.toUInt64 63)).toInt64) &&& 3689348814741910323)) + (((((v - (((v.toUInt64 >>> ((1 : Int32).toInt64.toUInt64 &&& Int64.toUInt64 63)).toInt64) &&& 6148914691236517205)) &&& 3689348814741910323) + ((((v - (((v.toUInt64 >>> ((1 : Int32).toInt64.toUInt64 &&& Int64.toUInt64 63)).toInt64) &&& 6148914691236517205)).toUInt64 >>> ((2 : Int32).toInt64.toUInt64 &&& Int64.toUInt64 63)).toInt64) &&& 3689348814741910323)).toUInt64 >>> ((4 : Int32).toInt64.toUInt64 &&& Int64.toUInt64 63)).toInt64)) &&& 1085102592571150095).toUInt64 >>> ((8 : Int32).toInt64.toUInt64 &&& Int64.toUInt64 63)).toInt64)) + ((((((((v - (((v.toUInt64 >>> ((1 : Int32).toInt64.toUInt64 &&& Int64.toUInt64 63)).toInt64) &&& 6148914691236517205)) &&& 3689348814741910323) + ((((v - (((v.toUInt64 >>> ((1 : Int32).toInt64.toUInt64 &&& Int64.toUInt64 63)).toInt64) &&& 6148914691236517205)).toUInt64 >>> ((2 : Int32).toInt64.toUInt64 &&& Int64.toUInt64 63)).toInt64) &&& 3689348814741910323)) + (((((v - (((v.toUInt64 >>> ((1 : Int32).toInt64.toUInt64 &&& Int64.toUInt64 63)).toInt64) &&& 6148914691236517205)) &&& 3689348814741910323) + ((((v - (((v.toUInt64 >>> ((1 : Int32).toInt64.toUInt64 &&& Int64.toUInt64 63)).toInt64) &&& 6148914691236517205)).toUInt64 >>> ((2 : Int32).toInt64.toUInt64 &&& Int64.toUInt64 63)).toInt64) &&& 3689348814741910323)).toUInt64 >>> ((4 : Int32).toInt64.toUInt64 &&& Int64.toUInt64 63)).toInt64)) &&& 1085102592571150095) + (((((((v - (((v.toUInt64 >>> ((1 : Int32).toInt64.toUInt64 &&& Int64.toUInt64 63)).toInt64) &&& 6148914691236517205)) &&& 3689348814741910323) + ((((v - (((v.toUInt64 >>> ((1 : Int32).toInt64.toUInt64 &&& Int64.toUInt64 63)).toInt64) &&& 6148914691236517205)).toUInt64 >>> ((2 : Int32).toInt64.toUInt64 &&& Int64.toUInt64 63)).toInt64) &&& 3689348814741910323)) + (((((v - (((v.toUInt64 >>> ((1 : Int32).toInt64.toUInt64 &&& Int64.toUInt64 63)).toInt64) &&& 6148914691236517205)) &&& 3689348814741910323) + ((((v - (((v.toUInt64 >>> ((1 : Int32).toInt64.toUInt64 &&& Int64.toUInt64 63)).toInt64) &&& 6148914691236517205)).toUInt64 >>> ((2 : Int32).toInt64.toUInt64 &&& Int64.toUInt64 63)).toInt64) &&& 3689348814741910323)).toUInt64 >>> ((4 : Int32).toInt64.toUInt64 &&& Int64.toUInt64 63)).toInt64)) &&& 1085102592571150095).toUInt64 >>> ((8 : Int32).toInt64.toUInt64 &&& Int64.toUInt64 63)).toInt64)).toUInt64 >>> ((16 : Int32).toInt64.toUInt64 &&& Int64.toUInt64 63)).toInt64)).toUInt64 >>> ((32 : Int32).toInt64.toUInt64 &&& Int64.toUInt64 63)).toInt64) hx hb dJ13_bitCount_95d88_52 rfl ?_
  refine lv_ladd hx hb dJ13_bitCount_95d88_53 ?_
  refine lv_lstore_n (lv' := [(0, .long ((((((((v - (((v.toUInt64 >>> ((1 : Int32).toInt64.toUInt64 &&& Int64.toUInt64 63)).toInt64) &&& 6148914691236517205)) &&& 3689348814741910323) + ((((v - (((v.toUInt64 >>> ((1 : Int32).toInt64.toUInt64 &&& Int64.toUInt64 63)).toInt64) &&& 6148914691236517205)).toUInt64 >>> ((2 : Int32).toInt64.toUInt64 &&& Int64.toUInt64 63)).toInt64) &&& 3689348814741910323)) + (((((v - (((v.toUInt64 >>> ((1 : Int32).toInt64.toUInt64 &&& Int64.toUInt64 63)).toInt64) &&& 6148914691236517205)) &&& 3689348814741910323) + ((((v - (((v.toUInt64 >>> ((1 : Int32).toInt64.toUInt64 &&& Int64.toUInt64 63)).toInt64) &&& 6148914691236517205)).toUInt64 >>> ((2 : Int32).toInt64.toUInt64 &&& Int64.toUInt64 63)).toInt64) &&& 3689348814741910323)).toUInt64 >>> ((4 : Int32).toInt64.toUInt64 &&& Int64.toUInt64 63)).toInt64)) &&& 1085102592571150095) + (((((((v - (((v.toUInt64 >>> ((1 : Int32).toInt64.toUInt64 &&& Int64.toUInt64 63)).toInt64) &&& 6148914691236517205)) &&& 3689348814741910323) + ((((v - (((v.toUInt64 >>> ((1 : Int32).toInt64.toUInt64 &&& Int64.toUInt64 63)).toInt64) &&& 6148914691236517205)).toUInt64 >>> ((2 : Int32).toInt64.toUInt64 &&& Int64.toUInt64 63)).toInt64) &&& 3689348814741910323)) + (((((v - (((v.toUInt64 >>> ((1 : Int32).toInt64.toUInt64 &&& Int64.toUInt64 63)).toInt64) &&& 6148914691236517205)) &&& 3689348814741910323) + ((((v - (((v.toUInt64 >>> ((1 : Int32).toInt64.toUInt64 &&& Int64.toUInt64 63)).toInt64) &&& 6148914691236517205)).toUInt64 >>> ((2 : Int32).toInt64.toUInt64 &&& Int64.toUInt64 63)).toInt64) &&& 3689348814741910323)).toUInt64 >>> ((4 : Int32).toInt64.toUInt64 &&& Int64.toUInt64 63)).toInt64)) &&& 1085102592571150095).toUInt64 >>> ((8 : Int32).toInt64.toUInt64 &&& Int64.toUInt64 63)).toInt64)) + ((((((((v - (((v.toUInt64 >>> ((1 : Int32).toInt64.toUInt64 &&& Int64.toUInt64 63)).toInt64) &&& 6148914691236517205)) &&& 3689348814741910323) + ((((v - (((v.toUInt64 >>> ((1 : Int32).toInt64.toUInt64 &&& Int64.toUInt64 63)).toInt64) &&& 6148914691236517205)).toUInt64 >>> ((2 : Int32).toInt64.toUInt64 &&& Int64.toUInt64 63)).toInt64) &&& 3689348814741910323)) + (((((v - (((v.toUInt64 >>> ((1 : Int32).toInt64.toUInt64 &&& Int64.toUInt64 63)).toInt64) &&& 6148914691236517205)) &&& 3689348814741910323) + ((((v - (((v.toUInt64 >>> ((1 : Int32).toInt64.toUInt64 &&& Int64.toUInt64 63)).toInt64) &&& 6148914691236517205)).toUInt64 >>> ((2 : Int32).toInt64.toUInt64 &&& Int64.toUInt64 63)).toInt64) &&& 3689348814741910323)).toUInt64 >>> ((4 : Int32).toInt64.toUInt64 &&& Int64.toUInt64 63)).toInt64)) &&& 1085102592571150095) + (((((((v - (((v.toUInt64 >>> ((1 : Int32).toInt64.toUInt64 &&& Int64.toUInt64 63)).toInt64) &&& 6148914691236517205)) &&& 3689348814741910323) + ((((v - (((v.toUInt64 >>> ((1 : Int32).toInt64.toUInt64 &&& Int64.toUInt64 63)).toInt64) &&& 6148914691236517205)).toUInt64 >>> ((2 : Int32).toInt64.toUInt64 &&& Int64.toUInt64 63)).toInt64) &&& 3689348814741910323)) + (((((v - (((v.toUInt64 >>> ((1 : Int32).toInt64.toUInt64 &&& Int64.toUInt64 63)).toInt64) &&& 6148914691236517205)) &&& 3689348814741910323) + ((((v - (((v.toUInt64 >>> ((1 : Int32).toInt64.toUInt64 &&& Int64.toUInt64 63)).toInt64) &&& 6148914691236517205)).toUInt64 >>> ((2 : Int32).toInt64.toUInt64 &&& Int64.toUInt64 63)).toInt64) &&& 3689348814741910323)).toUInt64 >>> ((4 : Int32).toInt64.toUInt64 &&& Int64.toUInt64 63)).toInt64)) &&& 1085102592571150095).toUInt64 >>> ((8 : Int32).toInt64.toUInt64 &&& Int64.toUInt64 63)).toInt64)).toUInt64 >>> ((16 : Int32).toInt64.toUInt64 &&& Int64.toUInt64 63)).toInt64)) + (((((((((v - (((v.toUInt64 >>> ((1 : Int32).toInt64.toUInt64 &&& Int64.toUInt64 63)).toInt64) &&& 6148914691236517205)) &&& 3689348814741910323) + ((((v - (((v.toUInt64 >>> ((1 : Int32).toInt64.toUInt64 &&& Int64.toUInt64 63)).toInt64) &&& 6148914691236517205)).toUInt64 >>> ((2 : Int32).toInt64.toUInt64 &&& Int64.toUInt64 63)).toInt64) &&& 3689348814741910323)) + (((((v - (((v.toUInt64 >>> ((1 : Int32).toInt64.toUInt64 &&& Int64.toUInt64 63)).toInt64) &&& 6148914691236517205)) &&& 3689348814741910323) + ((((v - (((v.toUInt64 >>> ((1 : Int32).toInt64.toUInt64 &&& Int64.toUInt64 63)).toInt64) &&& 6148914691236517205)).toUInt64 >>> ((2 : Int32).toInt64.toUInt64 &&& Int64.toUInt64 63)).toInt64) &&& 3689348814741910323)).toUInt64 >>> ((4 : Int32).toInt64.toUInt64 &&& Int64.toUInt64 63)).toInt64)) &&& 1085102592571150095) + (((((((v - (((v.toUInt64 >>> ((1 : Int32).toInt64.toUInt64 &&& Int64.toUInt64 63)).toInt64) &&& 6148914691236517205)) &&& 3689348814741910323) + ((((v - (((v.toUInt64 >>> ((1 : Int32).toInt64.toUInt64 &&& Int64.toUInt64 63)).toInt64) &&& 6148914691236517205)).toUInt64 >>> ((2 : Int32).toInt64.toUInt64 &&& Int64.toUInt64 63)).toInt64) &&& 3689348814741910323)) + (((((v - (((v.toUInt64 >>> ((1 : Int32).toInt64.toUInt64 &&& Int64.toUInt64 63)).toInt64) &&& 6148914691236517205)) &&& 3689348814741910323) + ((((v - (((v.toUInt64 >>> ((1 : Int32).toInt64.toUInt64 &&& Int64.toUInt64 63)).toInt64) &&& 6148914691236517205)).toUInt64 >>> ((2 : Int32).toInt64.toUInt64 &&& Int64.toUInt64 63)).toInt64) &&& 3689348814741910323)).toUInt64 >>> ((4 : Int32).toInt64.toUInt64 &&& Int64.toUInt64 63)).toInt64)) &&& 1085102592571150095).toUInt64 >>> ((8 : Int32).toInt64.toUInt64 &&& Int64.toUInt64 63)).toInt64)) + ((((((((v - (((v.toUInt64 >>> ((1 : Int32).toInt64.toUInt64 &&& Int64.toUInt64 63)).toInt64) &&& 6148914691236517205)) &&& 3689348814741910323) + ((((v - (((v.toUInt64 >>> ((1 : Int32).toInt64.toUInt64 &&& Int64.toUInt64 63)).toInt64) &&& 6148914691236517205)).toUInt64 >>> ((2 : Int32).toInt64.toUInt64 &&& Int64.toUInt64 63)).toInt64) &&& 3689348814741910323)) + (((((v - (((v.toUInt64 >>> ((1 : Int32).toInt64.toUInt64 &&& Int64.toUInt64 63)).toInt64) &&& 6148914691236517205)) &&& 3689348814741910323) + ((((v - (((v.toUInt64 >>> ((1 : Int32).toInt64.toUInt64 &&& Int64.toUInt64 63)).toInt64) &&& 6148914691236517205)).toUInt64 >>> ((2 : Int32).toInt64.toUInt64 &&& Int64.toUInt64 63)).toInt64) &&& 3689348814741910323)).toUInt64 >>> ((4 : Int32).toInt64.toUInt64 &&& Int64.toUInt64 63)).toInt64)) &&& 1085102592571150095) + (((((((v - (((v.toUInt64 >>> ((1 : Int32).toInt64.toUInt64 &&& Int64.toUInt64 63)).toInt64) &&& 6148914691236517205)) &&& 3689348814741910323) + ((((v - (((v.toUInt64 >>> ((1 : Int32).toInt64.toUInt64 &&& Int64.toUInt64 63)).toInt64) &&& 6148914691236517205)).toUInt64 >>> ((2 : Int32).toInt64.toUInt64 &&& Int64.toUInt64 63)).toInt64) &&& 3689348814741910323)) + (((((v - (((v.toUInt64 >>> ((1 : Int32).toInt64.toUInt64 &&& Int64.toUInt64 63)).toInt64) &&& 6148914691236517205)) &&& 3689348814741910323) + ((((v - (((v.toUInt64 >>> ((1 : Int32).toInt64.toUInt64 &&& Int64.toUInt64 63)).toInt64) &&& 6148914691236517205)).toUInt64 >>> ((2 : Int32).toInt64.toUInt64 &&& Int64.toUInt64 63)).toInt64) &&& 3689348814741910323)).toUInt64 >>> ((4 : Int32).toInt64.toUInt64 &&& Int64.toUInt64 63)).toInt64)) &&& 1085102592571150095).toUInt64 >>> ((8 : Int32).toInt64.toUInt64 &&& Int64.toUInt64 63)).toInt64)).toUInt64 >>> ((16 : Int32).toInt64.toUInt64 &&& Int64.toUInt64 63)).toInt64)).toUInt64 >>> ((32 : Int32).toInt64.toUInt64 &&& Int64.toUInt64 63)).toInt64)))]) hx hb dJ13_bitCount_95d88_54 rfl hl (by decide) rfl (fun ls hl => ?_)
  refine lv_lload_n hx hb dJ13_bitCount_95d88_55 rfl (lv_at hl 0 rfl) ?_
  refine lv_l2i (v := ((((((((v - (((v.toUInt64 >>> ((1 : Int32).toInt64.toUInt64 &&& Int64.toUInt64 63)).toInt64) &&& 6148914691236517205)) &&& 3689348814741910323) + ((((v - (((v.toUInt64 >>> ((1 : Int32).toInt64.toUInt64 &&& Int64.toUInt64 63)).toInt64) &&& 6148914691236517205)).toUInt64 >>> ((2 : Int32).toInt64.toUInt64 &&& Int64.toUInt64 63)).toInt64) &&& 3689348814741910323)) + (((((v - (((v.toUInt64 >>> ((1 : Int32).toInt64.toUInt64 &&& Int64.toUInt64 63)).toInt64) &&& 6148914691236517205)) &&& 3689348814741910323) + ((((v - (((v.toUInt64 >>> ((1 : Int32).toInt64.toUInt64 &&& Int64.toUInt64 63)).toInt64) &&& 6148914691236517205)).toUInt64 >>> ((2 : Int32).toInt64.toUInt64 &&& Int64.toUInt64 63)).toInt64) &&& 3689348814741910323)).toUInt64 >>> ((4 : Int32).toInt64.toUInt64 &&& Int64.toUInt64 63)).toInt64)) &&& 1085102592571150095) + (((((((v - (((v.toUInt64 >>> ((1 : Int32).toInt64.toUInt64 &&& Int64.toUInt64 63)).toInt64) &&& 6148914691236517205)) &&& 3689348814741910323) + ((((v - (((v.toUInt64 >>> ((1 : Int32).toInt64.toUInt64 &&& Int64.toUInt64 63)).toInt64) &&& 6148914691236517205)).toUInt64 >>> ((2 : Int32).toInt64.toUInt64 &&& Int64.toUInt64 63)).toInt64) &&& 3689348814741910323)) + (((((v - (((v.toUInt64 >>> ((1 : Int32).toInt64.toUInt64 &&& Int64.toUInt64 63)).toInt64) &&& 6148914691236517205)) &&& 3689348814741910323) + ((((v - (((v.toUInt64 >>> ((1 : Int32).toInt64.toUInt64 &&& Int64.toUInt64 63)).toInt64) &&& 6148914691236517205)).toUInt64 >>> ((2 : Int32).toInt64.toUInt64 &&& Int64.toUInt64 63)).toInt64) &&& 3689348814741910323)).toUInt64 >>> ((4 : Int32).toInt64.toUInt64 &&& Int64.toUInt64 63)).toInt64)) &&& 1085102592571150095).toUInt64 >>> ((8 : Int32).toInt64.toUInt64 &&& Int64.toUInt64 63)).toInt64)) + ((((((((v - (((v.toUInt64 >>> ((1 : Int32).toInt64.toUInt64 &&& Int64.toUInt64 63)).toInt64) &&& 6148914691236517205)) &&& 3689348814741910323) + ((((v - (((v.toUInt64 >>> ((1 : Int32).toInt64.toUInt64 &&& Int64.toUInt64 63)).toInt64) &&& 6148914691236517205)).toUInt64 >>> ((2 : Int32).toInt64.toUInt64 &&& Int64.toUInt64 63)).toInt64) &&& 3689348814741910323)) + (((((v - (((v.toUInt64 >>> ((1 : Int32).toInt64.toUInt64 &&& Int64.toUInt64 63)).toInt64) &&& 6148914691236517205)) &&& 3689348814741910323) + ((((v - (((v.toUInt64 >>> ((1 : Int32).toInt64.toUInt64 &&& Int64.toUInt64 63)).toInt64) &&& 6148914691236517205)).toUInt64 >>> ((2 : Int32).toInt64.toUInt64 &&& Int64.toUInt64 63)).toInt64) &&& 3689348814741910323)).toUInt64 >>> ((4 : Int32).toInt64.toUInt64 &&& Int64.toUInt64 63)).toInt64)) &&& 1085102592571150095) + (((((((v - (((v.toUInt64 >>> ((1 : Int32).toInt64.toUInt64 &&& Int64.toUInt64 63)).toInt64) &&& 6148914691236517205)) &&& 3689348814741910323) + ((((v - (((v.toUInt64 >>> ((1 : Int32).toInt64.toUInt64 &&& Int64.toUInt64 63)).toInt64) &&& 6148914691236517205)).toUInt64 >>> ((2 : Int32).toInt64.toUInt64 &&& Int64.toUInt64 63)).toInt64) &&& 3689348814741910323)) + (((((v - (((v.toUInt64 >>> ((1 : Int32).toInt64.toUInt64 &&& Int64.toUInt64 63)).toInt64) &&& 6148914691236517205)) &&& 3689348814741910323) + ((((v - (((v.toUInt64 >>> ((1 : Int32).toInt64.toUInt64 &&& Int64.toUInt64 63)).toInt64) &&& 6148914691236517205)).toUInt64 >>> ((2 : Int32).toInt64.toUInt64 &&& Int64.toUInt64 63)).toInt64) &&& 3689348814741910323)).toUInt64 >>> ((4 : Int32).toInt64.toUInt64 &&& Int64.toUInt64 63)).toInt64)) &&& 1085102592571150095).toUInt64 >>> ((8 : Int32).toInt64.toUInt64 &&& Int64.toUInt64 63)).toInt64)).toUInt64 >>> ((16 : Int32).toInt64.toUInt64 &&& Int64.toUInt64 63)).toInt64)) + (((((((((v - (((v.toUInt64 >>> ((1 : Int32).toInt64.toUInt64 &&& Int64.toUInt64 63)).toInt64) &&& 6148914691236517205)) &&& 3689348814741910323) + ((((v - (((v.toUInt64 >>> ((1 : Int32).toInt64.toUInt64 &&& Int64.toUInt64 63)).toInt64) &&& 6148914691236517205)).toUInt64 >>> ((2 : Int32).toInt64.toUInt64 &&& Int64.toUInt64 63)).toInt64) &&& 3689348814741910323)) + (((((v - (((v.toUInt64 >>> ((1 : Int32).toInt64.toUInt64 &&& Int64.toUInt64 63)).toInt64) &&& 6148914691236517205)) &&& 3689348814741910323) + ((((v - (((v.toUInt64 >>> ((1 : Int32).toInt64.toUInt64 &&& Int64.toUInt64 63)).toInt64) &&& 6148914691236517205)).toUInt64 >>> ((2 : Int32).toInt64.toUInt64 &&& Int64.toUInt64 63)).toInt64) &&& 3689348814741910323)).toUInt64 >>> ((4 : Int32).toInt64.toUInt64 &&& Int64.toUInt64 63)).toInt64)) &&& 1085102592571150095) + (((((((v - (((v.toUInt64 >>> ((1 : Int32).toInt64.toUInt64 &&& Int64.toUInt64 63)).toInt64) &&& 6148914691236517205)) &&& 3689348814741910323) + ((((v - (((v.toUInt64 >>> ((1 : Int32).toInt64.toUInt64 &&& Int64.toUInt64 63)).toInt64) &&& 6148914691236517205)).toUInt64 >>> ((2 : Int32).toInt64.toUInt64 &&& Int64.toUInt64 63)).toInt64) &&& 3689348814741910323)) + (((((v - (((v.toUInt64 >>> ((1 : Int32).toInt64.toUInt64 &&& Int64.toUInt64 63)).toInt64) &&& 6148914691236517205)) &&& 3689348814741910323) + ((((v - (((v.toUInt64 >>> ((1 : Int32).toInt64.toUInt64 &&& Int64.toUInt64 63)).toInt64) &&& 6148914691236517205)).toUInt64 >>> ((2 : Int32).toInt64.toUInt64 &&& Int64.toUInt64 63)).toInt64) &&& 3689348814741910323)).toUInt64 >>> ((4 : Int32).toInt64.toUInt64 &&& Int64.toUInt64 63)).toInt64)) &&& 1085102592571150095).toUInt64 >>> ((8 : Int32).toInt64.toUInt64 &&& Int64.toUInt64 63)).toInt64)) + ((((((((v - (((v.toUInt64 >>> ((1 : Int32).toInt64.toUInt64 &&& Int64.toUInt64 63)).toInt64) &&& 6148914691236517205)) &&& 3689348814741910323) + ((((v - (((v.toUInt64 >>> ((1 : Int32).toInt64.toUInt64 &&& Int64.toUInt64 63)).toInt64) &&& 6148914691236517205)).toUInt64 >>> ((2 : Int32).toInt64.toUInt64 &&& Int64.toUInt64 63)).toInt64) &&& 3689348814741910323)) + (((((v - (((v.toUInt64 >>> ((1 : Int32).toInt64.toUInt64 &&& Int64.toUInt64 63)).toInt64) &&& 6148914691236517205)) &&& 3689348814741910323) + ((((v - (((v.toUInt64 >>> ((1 : Int32).toInt64.toUInt64 &&& Int64.toUInt64 63)).toInt64) &&& 6148914691236517205)).toUInt64 >>> ((2 : Int32).toInt64.toUInt64 &&& Int64.toUInt64 63)).toInt64) &&& 3689348814741910323)).toUInt64 >>> ((4 : Int32).toInt64.toUInt64 &&& Int64.toUInt64 63)).toInt64)) &&& 1085102592571150095) + (((((((v - (((v.toUInt64 >>> ((1 : Int32).toInt64.toUInt64 &&& Int64.toUInt64 63)).toInt64) &&& 6148914691236517205)) &&& 3689348814741910323) + ((((v - (((v.toUInt64 >>> ((1 : Int32).toInt64.toUInt64 &&& Int64.toUInt64 63)).toInt64) &&& 6148914691236517205)).toUInt64 >>> ((2 : Int32).toInt64.toUInt64 &&& Int64.toUInt64 63)).toInt64) &&& 3689348814741910323)) + (((((v - (((v.toUInt64 >>> ((1 : Int32).toInt64.toUInt64 &&& Int64.toUInt64 63)).toInt64) &&& 6148914691236517205)) &&& 3689348814741910323) + ((((v - (((v.toUInt64 >>> ((1 : Int32).toInt64.toUInt64 &&& Int64.toUInt64 63)).toInt64) &&& 6148914691236517205)).toUInt64 >>> ((2 : Int32).toInt64.toUInt64 &&& Int64.toUInt64 63)).toInt64) &&& 3689348814741910323)).toUInt64 >>> ((4 : Int32).toInt64.toUInt64 &&& Int64.toUInt64 63)).toInt64)) &&& 1085102592571150095).toUInt64 >>> ((8 : Int32).toInt64.toUInt64 &&& Int64.toUInt64 63)).toInt64)).toUInt64 >>> ((16 : Int32).toInt64.toUInt64 &&& Int64.toUInt64 63)).toInt64)).toUInt64 >>> ((32 : Int32).toInt64.toUInt64 &&& Int64.toUInt64 63)).toInt64)).toInt32) hx hb dJ13_bitCount_95d88_56 rfl ?_
  refine lv_bipush (v := 127) hx hb dJ13_bitCount_95d88_57 (by decide) ?_
  refine lv_iand hx hb dJ13_bitCount_95d88_59 ?_
  exact endRI hx hb hr hlocks hQ hS dJ13_bitCount_95d88_60 rfl
def rmX0_onRows : Room := { frames := 1, cells := 0, slots := 0, locals := 22 }
theorem kdX0_onRows : yX0_onRows.cls = RX0 ∧ yX0_onRows.cls ≠ "java/lang/invoke/MethodHandle" ∧ yX0_onRows.cls ≠ "java/lang/invoke/VarHandle" ∧ (parseMethodDescriptor yX0_onRows.desc).map (fun d => d.parameters.length) = some 1 := ⟨rfl, by decide +kernel, by decide +kernel, by decide +kernel⟩
set_option maxRecDepth 100000 in
set_option maxHeartbeats 1000000 in
theorem kX0_onRows (l : Launch) (D : va_G) (cI cJ : ClassId) (v : Int32)  : Met l yX0_onRows wsX0_onRows rmX0_onRows (rPre D cI cJ [.int v] []) (qRI (zb (-24 ≤ v ∧ v ≤ 24))) 0 0 nA := by
  refine startR (cc := cX0_onRows) (maxL := 1) (ret := (some .boolean)) (by decide) rfl (Nat.le_of_ble_eq_true rfl) ?_
  intro p e s m args below meth c ls Q hQ hx hb hr hlocks hml hown hts hK hN hP hl hin
  have hown : s.vm.findClass RX0 = some m.cls := hown
  have hini_RX6 := hts (.initialized RX6) (by decide +kernel)
  have hst_X6_within := hts (.static yX6_within) (by decide +kernel)
  have hS : va_S nA s.heap s.heap [] := va_S.rf
  have hl : lv_has ls 1 [(0, .int v)] := hl
  have hP : va_P D vwCl [] s.heap := hP
  refine lv_iload_n hx hb dX0_onRows_0 rfl (lv_at hl 0 rfl) ?_
  refine lv_bipush (v := (-24)) hx hb dX0_onRows_1 (by decide) ?_
  refine lv_bipush (v := 24) hx hb dX0_onRows_3 (by decide) ?_
  refine goRI hP hS (va_runSN (As := [.int v, .int (-24), .int 24]) (rest := []) ⟨hx, hb, hml, hown, hts⟩ (kX6_within l D cI cJ v (-24) 24) ⟨va_cnB (host := "FireNets") 3 hts gX0_onRows_X6_within_n71 rfl rfl rfl (hN _ nwm_RX0_71) hini_RX6 kdX6_within.2 ⟨Nat.le_of_ble_eq_true rfl, Nat.le_of_ble_eq_true rfl⟩, hst_X6_within, trivial⟩ (preR hK hN hP [] rfl) rfl rfl hl.1 rfl (lv_room (Nat.le_of_ble_eq_true rfl)) dX0_onRows_5 ⟨Nat.zero_le _, Nat.zero_le _⟩) (fun H locs hP hS => ?_)
  exact endRZ hx hb hr hlocks hQ hS dX0_onRows_8 zb_nar rfl
def rmX0_isWall : Room := { frames := 0, cells := 0, slots := 0, locals := 0 }
theorem kdX0_isWall : yX0_isWall.cls = RX0 ∧ yX0_isWall.cls ≠ "java/lang/invoke/MethodHandle" ∧ yX0_isWall.cls ≠ "java/lang/invoke/VarHandle" ∧ (parseMethodDescriptor yX0_isWall.desc).map (fun d => d.parameters.length) = some 2 := ⟨rfl, by decide +kernel, by decide +kernel, by decide +kernel⟩
set_option maxRecDepth 100000 in
set_option maxHeartbeats 1000000 in
theorem kX0_isWall (l : Launch) (D : va_G) (cI cJ : ClassId) (bo ax ay az ab af ag sq : Nat) (sh lo : Int32) (wx wy : Row) (x y : Int32) (hsq : sq ≤ 40) : Met l yX0_isWall wsX0_isWall rmX0_isWall (rPre D cI cJ [.ref bo, .int x, .int y] [(bo, .inr (0, [.int (nI sq), .int sh, .int lo, .ref ax, .ref ay, .ref az, .ref ab, .ref af, .ref ag])), (ax, .inl (cI, 40, .inl wx)), (ay, .inl (cI, 40, .inl wy))]) (qRI (zb (isWB wx wy x y sq = true))) 0 0 nA := by
  refine startR (cc := cX0_isWall) (maxL := 4) (ret := (some .boolean)) (by decide) rfl (Nat.le_of_ble_eq_true rfl) ?_
  intro p e s m args below meth c ls Q hQ hx hb hr hlocks hml hown hts hK hN hP hl hin
  have hown : s.vm.findClass RX0 = some m.cls := hown
  have hi_0 : ∀ w ∈ wsX00, w ∈ wsX0_isWall := by decide +kernel
  have hf_11 := hts (.fieldLink RX0 11 "FireNets$Board" "wallX" "[I") (by decide +kernel)
  have hf_15 := hts (.fieldLink RX0 15 "FireNets$Board" "wallY" "[I") (by decide +kernel)
  have hf_31 := hts (.fieldLink RX0 31 "FireNets$Board" "squares" "I") (by decide +kernel)
  have hS : va_S nA s.heap s.heap [] := va_S.rf
  have hl : lv_has ls 4 [(0, .ref bo), (1, .int x), (2, .int y)] := hl
  have hP : va_P D vwCl [(bo, .inr (0, [.int (nI sq), .int sh, .int lo, .ref ax, .ref ay, .ref az, .ref ab, .ref af, .ref ag])), (ax, .inl (cI, 40, .inl wx)), (ay, .inl (cI, 40, .inl wy))] s.heap := hP
  refine lv_iconst (v := 0) hx hb dX0_isWall_0 (by decide) ?_
  refine lv_istore_n (lv' := [(3, .int 0), (0, .ref bo), (1, .int x), (2, .int y)]) hx hb dX0_isWall_1 rfl hl (by decide) rfl (fun ls hl => ?_)
  have lp : ∀ (fu : Nat) (k : Nat), (k ≤ sq) → (isWB wx wy x y k = false) → sq - k < fu → ∀ (ls : Array Slot) (H : Heap) (locs : List Loc), lv_has ls 4 [(0, .ref bo), (1, .int x), (2, .int y), (3, .int (nI k))] → va_P D vwCl [(bo, .inr (0, [.int (nI sq), .int sh, .int lo, .ref ax, .ref ay, .ref az, .ref ab, .ref af, .ref ag])), (ax, .inl (cI, 40, .inl wx)), (ay, .inl (cI, 40, .inl wy))] H → va_S nA s.heap H locs → W p l e rmX0_isWall s m args below meth c H locs 0 0 Q (F0 m 2 ls []) := by
    intro fu
    induction fu with
    | zero => intro k hk hw hf; exact absurd hf (Nat.not_lt_zero _)
    | succ fu ih_lp =>
      intro k hk hw hf ls H locs hl hP hS
      refine lv_iload_n hx hb dX0_isWall_2 rfl (lv_at hl 3 rfl) ?_
      refine lv_aload_n hx hb dX0_isWall_3 rfl (lv_at hl 0 rfl) ?_
      refine va_get (D := D) (ci := 0) (v := .int (nI sq)) (C := RX0) (T := TX0) (N := 9) hx hb hts hi_0 hown hK hP 0 rfl rfl 0 (by decide) hf_31 (fun _ h9 => h9) rfl dX0_isWall_4 ?_
      refine r_icmp_ge (tgt := 44) hx hb k sq dX0_isWall_7 (by decide) rfl rfl (by omega) (by omega) (fun c_7 => ?_) (fun c_7 => ?_)
      · refine lv_iconst (v := 0) hx hb dX0_isWall_44 (by decide) ?_
        exact endRZ hx hb hr hlocks hQ hS dX0_isWall_45 rfl (zb_f (by rw [show sq = k by omega, hw]; decide))
      · refine lv_iload_n hx hb dX0_isWall_10 rfl (lv_at hl 3 rfl) ?_
        refine lv_bipush (v := 40) hx hb dX0_isWall_11 (by decide) ?_
        refine r_icmp_ge (tgt := 44) hx hb k 40 dX0_isWall_13 (by decide) rfl rfl (by omega) (by omega) (fun c_13 => ?_) (fun c_13 => ?_)
        · exact absurd c_13 (by omega)
        · refine lv_aload_n hx hb dX0_isWall_16 rfl (lv_at hl 0 rfl) ?_
          refine va_get (D := D) (ci := 0) (v := .ref ax) (C := RX0) (T := TX0) (N := 9) hx hb hts hi_0 hown hK hP 0 rfl rfl 3 (by decide) hf_11 (fun _ h9 => h9) rfl dX0_isWall_17 ?_
          refine lv_iload_n hx hb dX0_isWall_20 rfl (lv_at hl 3 rfl) ?_
          refine r_iald hx hb hK hP 1 rfl k rfl (by omega) (by omega) dX0_isWall_21 ?_
          refine lv_iload_n hx hb dX0_isWall_22 rfl (lv_at hl 1 rfl) ?_
          refine lv_icmp_ne (tgt := 38) hx hb dX0_isWall_23 (by decide) (fun c_23 => ?_) (fun c_23 => ?_)
          · refine r_iinc (lv' := [(3, .int (nI (k + 1))), (0, .ref bo), (1, .int x), (2, .int y)]) hx hb 3 k dX0_isWall_38 hl rfl (by decide) rfl (fun ls hl => ?_)
            refine lv_goto (tgt := 2) hx hb dX0_isWall_41 (by decide) ?_
            exact ih_lp (k + 1) (by omega) (by rw [isWB, hw]; simp [c_23]) (by omega) ls _ _ (lv_sub hl [1, 2, 3, 0] rfl) hP hS
          · refine lv_aload_n hx hb dX0_isWall_26 rfl (lv_at hl 0 rfl) ?_
            refine va_get (D := D) (ci := 0) (v := .ref ay) (C := RX0) (T := TX0) (N := 9) hx hb hts hi_0 hown hK hP 0 rfl rfl 4 (by decide) hf_15 (fun _ h9 => h9) rfl dX0_isWall_27 ?_
            refine lv_iload_n hx hb dX0_isWall_30 rfl (lv_at hl 3 rfl) ?_
            refine r_iald hx hb hK hP 2 rfl k rfl (by omega) (by omega) dX0_isWall_31 ?_
            refine lv_iload_n hx hb dX0_isWall_32 rfl (lv_at hl 2 rfl) ?_
            refine lv_icmp_ne (tgt := 38) hx hb dX0_isWall_33 (by decide) (fun c_33 => ?_) (fun c_33 => ?_)
            · refine r_iinc (lv' := [(3, .int (nI (k + 1))), (0, .ref bo), (1, .int x), (2, .int y)]) hx hb 3 k dX0_isWall_38 hl rfl (by decide) rfl (fun ls hl => ?_)
              refine lv_goto (tgt := 2) hx hb dX0_isWall_41 (by decide) ?_
              exact ih_lp (k + 1) (by omega) (by rw [isWB, hw]; simp [c_33]) (by omega) ls _ _ (lv_sub hl [1, 2, 3, 0] rfl) hP hS
            · refine lv_iconst (v := 1) hx hb dX0_isWall_36 (by decide) ?_
              exact endRZ hx hb hr hlocks hQ hS dX0_isWall_37 rfl (zb_t (by rw [show sq = (k + 1) + (sq - (k + 1)) by omega]; exact isWB_mono (by rw [isWB]; simp [c_23, c_33]) _))
  exact lp _ 0 (by omega) rfl (Nat.lt_succ_self _) ls _ _ (lv_sub hl [1, 2, 3, 0] rfl) hP hS
def rmX0_add : Room := { frames := 0, cells := 0, slots := 0, locals := 0 }
theorem kdX0_add : yX0_add.cls = RX0 ∧ yX0_add.cls ≠ "java/lang/invoke/MethodHandle" ∧ yX0_add.cls ≠ "java/lang/invoke/VarHandle" ∧ (parseMethodDescriptor yX0_add.desc).map (fun d => d.parameters.length) = some 3 := ⟨rfl, by decide +kernel, by decide +kernel, by decide +kernel⟩
set_option maxRecDepth 100000 in
set_option maxHeartbeats 1000000 in
theorem kX0_add (l : Launch) (D : va_G) (cI cJ : ClassId) (bo ax ay az ab af ag sq : Nat) (sh lo : Int32) (wx wy wt : Row) (x y t : Int32) (hsq : sq < 40) : Met l yX0_add wsX0_add rmX0_add (mPre D cI cJ [.ref bo, .int x, .int y, .int t] [(bo, .inr (0, [.int (nI sq), .int sh, .int lo, .ref ax, .ref ay, .ref az, .ref ab, .ref af, .ref ag])), (ax, .inl (cI, 40, .inl wx)), (ay, .inl (cI, 40, .inl wy)), (az, .inl (cI, 40, .inl wt))]) (mQi D (fun (r : Int32) (_ : Unit) => r = (nI (sq + 1))) (fun (_ : Unit) => [(bo, .inr (0, [.int (nI (sq + 1)), .int sh, .int lo, .ref ax, .ref ay, .ref az, .ref ab, .ref af, .ref ag])), (ax, .inl (cI, 40, .inl (upd wx sq x))), (ay, .inl (cI, 40, .inl (upd wy sq y))), (az, .inl (cI, 40, .inl (upd wt sq t)))]) [(bo, .inr (0, [.int (nI sq), .int sh, .int lo, .ref ax, .ref ay, .ref az, .ref ab, .ref af, .ref ag])), (ax, .inl (cI, 40, .inl wx)), (ay, .inl (cI, 40, .inl wy)), (az, .inl (cI, 40, .inl wt))]) 0 0 (mA [(bo, .inr (0, [.int (nI sq), .int sh, .int lo, .ref ax, .ref ay, .ref az, .ref ab, .ref af, .ref ag])), (ax, .inl (cI, 40, .inl wx)), (ay, .inl (cI, 40, .inl wy)), (az, .inl (cI, 40, .inl wt))]) := by
  refine startM (cc := cX0_add) (maxL := 4) (ret := (some .int)) (by decide) rfl (Nat.le_of_ble_eq_true rfl) ?_
  intro p e s m args below meth c ls Q A hA hQ hx hb hr hlocks hml hown hts hK hN hP hD hl hin
  have hown : s.vm.findClass RX0 = some m.cls := hown
  have hi_0 : ∀ w ∈ wsX00, w ∈ wsX0_add := by decide +kernel
  have hf_11 := hts (.fieldLink RX0 11 "FireNets$Board" "wallX" "[I") (by decide +kernel)
  have hf_15 := hts (.fieldLink RX0 15 "FireNets$Board" "wallY" "[I") (by decide +kernel)
  have hf_18 := hts (.fieldLink RX0 18 "FireNets$Board" "wallTick" "[I") (by decide +kernel)
  have hf_31 := hts (.fieldLink RX0 31 "FireNets$Board" "squares" "I") (by decide +kernel)
  have hS : va_S A s.heap s.heap [] := va_S.rf
  have hl : lv_has ls 4 [(0, .ref bo), (1, .int x), (2, .int y), (3, .int t)] := hl
  have hP : va_P D vwCl [(bo, .inr (0, [.int (nI sq), .int sh, .int lo, .ref ax, .ref ay, .ref az, .ref ab, .ref af, .ref ag])), (ax, .inl (cI, 40, .inl wx)), (ay, .inl (cI, 40, .inl wy)), (az, .inl (cI, 40, .inl wt))] s.heap := hP
  refine lv_aload_n hx hb dX0_add_0 rfl (lv_at hl 0 rfl) ?_
  refine va_get (D := D) (ci := 0) (v := .int (nI sq)) (C := RX0) (T := TX0) (N := 9) hx hb hts hi_0 hown hK hP 0 rfl rfl 0 (by decide) hf_31 (fun _ h9 => h9) rfl dX0_add_1 ?_
  refine lv_if_lt (tgt := 16) hx hb dX0_add_4 (by decide) (fun c_4 => ?_) (fun c_4 => ?_)
  · exact absurd c_4 (nI_pos (by omega))
  · refine lv_aload_n hx hb dX0_add_7 rfl (lv_at hl 0 rfl) ?_
    refine va_get (D := D) (ci := 0) (v := .int (nI sq)) (C := RX0) (T := TX0) (N := 9) hx hb hts hi_0 hown hK hP 0 rfl rfl 0 (by decide) hf_31 (fun _ h9 => h9) rfl dX0_add_8 ?_
    refine lv_bipush (v := 40) hx hb dX0_add_11 (by decide) ?_
    refine r_icmp_lt (tgt := 20) hx hb sq 40 dX0_add_13 (by decide) rfl rfl (by omega) (by omega) (fun c_13 => ?_) (fun c_13 => ?_)
    · refine lv_aload_n hx hb dX0_add_20 rfl (lv_at hl 0 rfl) ?_
      refine va_get (D := D) (ci := 0) (v := .ref ax) (C := RX0) (T := TX0) (N := 9) hx hb hts hi_0 hown hK hP 0 rfl rfl 3 (by decide) hf_11 (fun _ h9 => h9) rfl dX0_add_21 ?_
      refine lv_aload_n hx hb dX0_add_24 rfl (lv_at hl 0 rfl) ?_
      refine va_get (D := D) (ci := 0) (v := .int (nI sq)) (C := RX0) (T := TX0) (N := 9) hx hb hts hi_0 hown hK hP 0 rfl rfl 0 (by decide) hf_31 (fun _ h9 => h9) rfl dX0_add_25 ?_
      refine lv_iload_n hx hb dX0_add_28 rfl (lv_at hl 1 rfl) ?_
      refine r_iast hx hb hK hP hD hS 1 rfl sq rfl (by omega) (by omega) dX0_add_29 (fun H locs hP hD hS => ?_)
      have hP : va_P D vwCl [(bo, .inr (0, [.int (nI sq), .int sh, .int lo, .ref ax, .ref ay, .ref az, .ref ab, .ref af, .ref ag])), (ax, .inl (cI, 40, .inl (upd wx sq x))), (ay, .inl (cI, 40, .inl wy)), (az, .inl (cI, 40, .inl wt))] H := hP
      have hD : va_D A [(bo, .inr (0, [.int (nI sq), .int sh, .int lo, .ref ax, .ref ay, .ref az, .ref ab, .ref af, .ref ag])), (ax, .inl (cI, 40, .inl (upd wx sq x))), (ay, .inl (cI, 40, .inl wy)), (az, .inl (cI, 40, .inl wt))] := hD
      refine lv_aload_n hx hb dX0_add_30 rfl (lv_at hl 0 rfl) ?_
      refine va_get (D := D) (ci := 0) (v := .ref ay) (C := RX0) (T := TX0) (N := 9) hx hb hts hi_0 hown hK hP 0 rfl rfl 4 (by decide) hf_15 (fun _ h9 => h9) rfl dX0_add_31 ?_
      refine lv_aload_n hx hb dX0_add_34 rfl (lv_at hl 0 rfl) ?_
      refine va_get (D := D) (ci := 0) (v := .int (nI sq)) (C := RX0) (T := TX0) (N := 9) hx hb hts hi_0 hown hK hP 0 rfl rfl 0 (by decide) hf_31 (fun _ h9 => h9) rfl dX0_add_35 ?_
      refine lv_iload_n hx hb dX0_add_38 rfl (lv_at hl 2 rfl) ?_
      refine r_iast hx hb hK hP hD hS 2 rfl sq rfl (by omega) (by omega) dX0_add_39 (fun H locs hP hD hS => ?_)
      have hP : va_P D vwCl [(bo, .inr (0, [.int (nI sq), .int sh, .int lo, .ref ax, .ref ay, .ref az, .ref ab, .ref af, .ref ag])), (ax, .inl (cI, 40, .inl (upd wx sq x))), (ay, .inl (cI, 40, .inl (upd wy sq y))), (az, .inl (cI, 40, .inl wt))] H := hP
      have hD : va_D A [(bo, .inr (0, [.int (nI sq), .int sh, .int lo, .ref ax, .ref ay, .ref az, .ref ab, .ref af, .ref ag])), (ax, .inl (cI, 40, .inl (upd wx sq x))), (ay, .inl (cI, 40, .inl (upd wy sq y))), (az, .inl (cI, 40, .inl wt))] := hD
      refine lv_aload_n hx hb dX0_add_40 rfl (lv_at hl 0 rfl) ?_
      refine va_get (D := D) (ci := 0) (v := .ref az) (C := RX0) (T := TX0) (N := 9) hx hb hts hi_0 hown hK hP 0 rfl rfl 5 (by decide) hf_18 (fun _ h9 => h9) rfl dX0_add_41 ?_
      refine lv_aload_n hx hb dX0_add_44 rfl (lv_at hl 0 rfl) ?_
      refine va_get (D := D) (ci := 0) (v := .int (nI sq)) (C := RX0) (T := TX0) (N := 9) hx hb hts hi_0 hown hK hP 0 rfl rfl 0 (by decide) hf_31 (fun _ h9 => h9) rfl dX0_add_45 ?_
      refine lv_iload_n hx hb dX0_add_48 rfl (lv_at hl 3 rfl) ?_
      refine r_iast hx hb hK hP hD hS 3 rfl sq rfl (by omega) (by omega) dX0_add_49 (fun H locs hP hD hS => ?_)
      have hP : va_P D vwCl [(bo, .inr (0, [.int (nI sq), .int sh, .int lo, .ref ax, .ref ay, .ref az, .ref ab, .ref af, .ref ag])), (ax, .inl (cI, 40, .inl (upd wx sq x))), (ay, .inl (cI, 40, .inl (upd wy sq y))), (az, .inl (cI, 40, .inl (upd wt sq t)))] H := hP
      have hD : va_D A [(bo, .inr (0, [.int (nI sq), .int sh, .int lo, .ref ax, .ref ay, .ref az, .ref ab, .ref af, .ref ag])), (ax, .inl (cI, 40, .inl (upd wx sq x))), (ay, .inl (cI, 40, .inl (upd wy sq y))), (az, .inl (cI, 40, .inl (upd wt sq t)))] := hD
      refine lv_aload_n hx hb dX0_add_50 rfl (lv_at hl 0 rfl) ?_
      refine lv_dup hx hb dX0_add_51 rfl ?_
      refine va_get (D := D) (ci := 0) (v := .int (nI sq)) (C := RX0) (T := TX0) (N := 9) hx hb hts hi_0 hown hK hP 0 rfl rfl 0 (by decide) hf_31 (fun _ h9 => h9) rfl dX0_add_52 ?_
      refine lv_iconst (v := 1) hx hb dX0_add_55 (by decide) ?_
      refine lv_iadd hx hb dX0_add_56 ?_
      refine r_top (x' := nI (sq + 1)) (nI_add sq 1) ?_
      refine va_put (D := D) (ci := 0) (v := .int (nI (sq + 1))) (ty := .int) (C := RX0) (T := TX0) (N := 9) hx hb hts hi_0 tyX0 tyX0_ok nmX0 hown hK hP hD hS 0 rfl rfl 0 (by decide) hf_31 (fun _ h9 => h9) rfl (by decide +kernel) rfl rfl (Nat.le_of_ble_eq_true rfl) dX0_add_57 (fun H locs hP hD hS => ?_)
      have hP : va_P D vwCl [(bo, .inr (0, [.int (nI (sq + 1)), .int sh, .int lo, .ref ax, .ref ay, .ref az, .ref ab, .ref af, .ref ag])), (ax, .inl (cI, 40, .inl (upd wx sq x))), (ay, .inl (cI, 40, .inl (upd wy sq y))), (az, .inl (cI, 40, .inl (upd wt sq t)))] H := hP
      have hD : va_D A [(bo, .inr (0, [.int (nI (sq + 1)), .int sh, .int lo, .ref ax, .ref ay, .ref az, .ref ab, .ref af, .ref ag])), (ax, .inl (cI, 40, .inl (upd wx sq x))), (ay, .inl (cI, 40, .inl (upd wy sq y))), (az, .inl (cI, 40, .inl (upd wt sq t)))] := hD
      refine lv_aload_n hx hb dX0_add_60 rfl (lv_at hl 0 rfl) ?_
      refine va_get (D := D) (ci := 0) (v := .int (nI (sq + 1))) (C := RX0) (T := TX0) (N := 9) hx hb hts hi_0 hown hK hP 0 rfl rfl 0 (by decide) hf_31 (fun _ h9 => h9) rfl dX0_add_61 ?_
      exact endMI () hx hb hr hlocks hA hQ hS hP dX0_add_64 rfl rfl
    · exact absurd c_13 (by omega)
def rmX0_needed : Room := { frames := 1, cells := 0, slots := 0, locals := 30 }
theorem kdX0_needed : yX0_needed.cls = RX0 ∧ yX0_needed.cls ≠ "java/lang/invoke/MethodHandle" ∧ yX0_needed.cls ≠ "java/lang/invoke/VarHandle" ∧ (parseMethodDescriptor yX0_needed.desc).map (fun d => d.parameters.length) = some 0 := ⟨rfl, by decide +kernel, by decide +kernel, by decide +kernel⟩
set_option maxRecDepth 100000 in
set_option maxHeartbeats 1000000 in
theorem kX0_needed (l : Launch) (D : va_G) (cI cJ : ClassId) (bo ax ay az ab af ag sq : Nat) (sh lo : Int32) (wt : Row) (hsq : sq ≤ 40) : Met l yX0_needed wsX0_needed rmX0_needed (rPre D cI cJ [.ref bo] [(bo, .inr (0, [.int (nI sq), .int sh, .int lo, .ref ax, .ref ay, .ref az, .ref ab, .ref af, .ref ag])), (az, .inl (cI, 40, .inl wt))]) (qRI (needA wt sq 20)) 0 0 nA := by
  refine startR (cc := cX0_needed) (maxL := 5) (ret := (some .int)) (by decide) rfl (Nat.le_of_ble_eq_true rfl) ?_
  intro p e s m args below meth c ls Q hQ hx hb hr hlocks hml hown hts hK hN hP hl hin
  have hown : s.vm.findClass RX0 = some m.cls := hown
  have hi_0 : ∀ w ∈ wsX00, w ∈ wsX0_needed := by decide +kernel
  have hf_18 := hts (.fieldLink RX0 18 "FireNets$Board" "wallTick" "[I") (by decide +kernel)
  have hf_31 := hts (.fieldLink RX0 31 "FireNets$Board" "squares" "I") (by decide +kernel)
  have hm0_max := hts (.methodLink RX0 35 Lib.Math.max.name) (by decide +kernel)
  have hm1_max := hts (.static Lib.Math.max.name) (by decide +kernel)
  have hm2_max := hts (.initialized "java/lang/Math") (by decide +kernel)
  have hm3_max := hts (.code Lib.Math.max.name Lib.Math.max.code 2 (some .int)) (by decide +kernel)
  have hS : va_S nA s.heap s.heap [] := va_S.rf
  have hl : lv_has ls 5 [(0, .ref bo)] := hl
  have hP : va_P D vwCl [(bo, .inr (0, [.int (nI sq), .int sh, .int lo, .ref ax, .ref ay, .ref az, .ref ab, .ref af, .ref ag])), (az, .inl (cI, 40, .inl wt))] s.heap := hP
  refine lv_iconst (v := 0) hx hb dX0_needed_0 (by decide) ?_
  refine lv_istore_n (lv' := [(1, .int 0), (0, .ref bo)]) hx hb dX0_needed_1 rfl hl (by decide) rfl (fun ls hl => ?_)
  refine lv_iconst (v := 1) hx hb dX0_needed_2 (by decide) ?_
  refine lv_istore_n (lv' := [(2, .int 1), (1, .int 0), (0, .ref bo)]) hx hb dX0_needed_3 rfl hl (by decide) rfl (fun ls hl => ?_)
  have lp : ∀ (fu : Nat) (t : Nat), (t ≤ 20) → 20 - t < fu → ∀ (ls : Array Slot) (H : Heap) (locs : List Loc), lv_has ls 5 [(0, .ref bo), (1, .int (needA wt sq t)), (2, .int (nI (t + 1)))] → va_P D vwCl [(bo, .inr (0, [.int (nI sq), .int sh, .int lo, .ref ax, .ref ay, .ref az, .ref ab, .ref af, .ref ag])), (az, .inl (cI, 40, .inl wt))] H → va_S nA s.heap H locs → W p l e rmX0_needed s m args below meth c H locs 0 0 Q (F0 m 4 ls []) := by
    intro fu
    induction fu with
    | zero => intro t ht hf; exact absurd hf (Nat.not_lt_zero _)
    | succ fu ih_lp =>
      intro t ht hf ls H locs hl hP hS
      refine lv_iload_n hx hb dX0_needed_4 rfl (lv_at hl 2 rfl) ?_
      refine lv_bipush (v := 20) hx hb dX0_needed_5 (by decide) ?_
      refine r_icmp_gt (tgt := 63) hx hb (t + 1) 20 dX0_needed_7 (by decide) rfl rfl (by omega) (by omega) (fun c_7 => ?_) (fun c_7 => ?_)
      · refine lv_iload_n hx hb dX0_needed_63 rfl (lv_at hl 1 rfl) ?_
        exact endRI hx hb hr hlocks hQ hS dX0_needed_64 (by rw [show t = 20 by omega])
      · refine lv_iconst (v := 0) hx hb dX0_needed_10 (by decide) ?_
        refine lv_istore_n (lv' := [(3, .int 0), (0, .ref bo), (1, .int (needA wt sq t)), (2, .int (nI (t + 1)))]) hx hb dX0_needed_11 rfl hl (by decide) rfl (fun ls hl => ?_)
        refine lv_iconst (v := 0) hx hb dX0_needed_12 (by decide) ?_
        refine lv_istore (lv' := [(4, .int 0), (3, .int 0), (0, .ref bo), (1, .int (needA wt sq t)), (2, .int (nI (t + 1)))]) hx hb dX0_needed_13 hl (by decide) rfl (fun ls hl => ?_)
        have inn : ∀ (fu : Nat) (k : Nat), (k ≤ sq) → sq - k < fu → ∀ (ls : Array Slot) (H : Heap) (locs : List Loc), lv_has ls 5 [(0, .ref bo), (1, .int (needA wt sq t)), (2, .int (nI (t + 1))), (3, .int (cntA wt (nI (t + 1)) k)), (4, .int (nI k))] → va_P D vwCl [(bo, .inr (0, [.int (nI sq), .int sh, .int lo, .ref ax, .ref ay, .ref az, .ref ab, .ref af, .ref ag])), (az, .inl (cI, 40, .inl wt))] H → va_S nA s.heap H locs → W p l e rmX0_needed s m args below meth c H locs 0 0 Q (F0 m 15 ls []) := by
          intro fu
          induction fu with
          | zero => intro k hk hf; exact absurd hf (Nat.not_lt_zero _)
          | succ fu ih_inn =>
            intro k hk hf ls H locs hl hP hS
            refine lv_iload hx hb dX0_needed_15 (lv_at hl 4 rfl) ?_
            refine lv_aload_n hx hb dX0_needed_17 rfl (lv_at hl 0 rfl) ?_
            refine va_get (D := D) (ci := 0) (v := .int (nI sq)) (C := RX0) (T := TX0) (N := 9) hx hb hts hi_0 hown hK hP 0 rfl rfl 0 (by decide) hf_31 (fun _ h9 => h9) rfl dX0_needed_18 ?_
            refine r_icmp_ge (tgt := 51) hx hb k sq dX0_needed_21 (by decide) rfl rfl (by omega) (by omega) (fun c_21 => ?_) (fun c_21 => ?_)
            · refine lv_iload_n hx hb dX0_needed_51 rfl (lv_at hl 1 rfl) ?_
              refine lv_iload_n hx hb dX0_needed_52 rfl (lv_at hl 3 rfl) ?_
              refine va_mmax hx hb (hml.trans hl.1.symm) hown hm0_max hm1_max hm2_max hm3_max (Nat.le_of_ble_eq_true rfl) (Nat.le_of_ble_eq_true rfl) (Nat.zero_le _) (Nat.zero_le _) dX0_needed_53 ?_
              refine lv_istore_n (lv' := [(1, .int (if (needA wt sq t) < (cntA wt (nI (t + 1)) k) then (cntA wt (nI (t + 1)) k) else (needA wt sq t))), (0, .ref bo), (2, .int (nI (t + 1))), (3, .int (cntA wt (nI (t + 1)) k)), (4, .int (nI k))]) hx hb dX0_needed_56 rfl hl (by decide) rfl (fun ls hl => ?_)
              refine r_iinc (lv' := [(2, .int (nI ((t + 1) + 1))), (1, .int (if (needA wt sq t) < (cntA wt (nI (t + 1)) k) then (cntA wt (nI (t + 1)) k) else (needA wt sq t))), (0, .ref bo), (3, .int (cntA wt (nI (t + 1)) k)), (4, .int (nI k))]) hx hb 2 (t + 1) dX0_needed_57 hl rfl (by decide) rfl (fun ls hl => ?_)
              refine lv_goto (tgt := 4) hx hb dX0_needed_60 (by decide) ?_
              exact ih_lp (t + 1) (by omega) (by omega) ls _ _ (by rw [show k = sq by omega] at hl; exact lv_sub hl [2, 1, 0] rfl) hP hS
            · refine lv_iload hx hb dX0_needed_24 (lv_at hl 4 rfl) ?_
              refine lv_bipush (v := 40) hx hb dX0_needed_26 (by decide) ?_
              refine r_icmp_ge (tgt := 51) hx hb k 40 dX0_needed_28 (by decide) rfl rfl (by omega) (by omega) (fun c_28 => ?_) (fun c_28 => ?_)
              · exact absurd c_28 (by omega)
              · refine lv_aload_n hx hb dX0_needed_31 rfl (lv_at hl 0 rfl) ?_
                refine va_get (D := D) (ci := 0) (v := .ref az) (C := RX0) (T := TX0) (N := 9) hx hb hts hi_0 hown hK hP 0 rfl rfl 5 (by decide) hf_18 (fun _ h9 => h9) rfl dX0_needed_32 ?_
                refine lv_iload hx hb dX0_needed_35 (lv_at hl 4 rfl) ?_
                refine r_iald hx hb hK hP 1 rfl k rfl (by omega) (by omega) dX0_needed_37 ?_
                refine lv_iload_n hx hb dX0_needed_38 rfl (lv_at hl 2 rfl) ?_
                refine lv_icmp_ne (tgt := 45) hx hb dX0_needed_39 (by decide) (fun c_39 => ?_) (fun c_39 => ?_)
                · refine r_iinc (lv' := [(4, .int (nI (k + 1))), (0, .ref bo), (1, .int (needA wt sq t)), (2, .int (nI (t + 1))), (3, .int (cntA wt (nI (t + 1)) k))]) hx hb 4 k dX0_needed_45 hl rfl (by decide) rfl (fun ls hl => ?_)
                  refine lv_goto (tgt := 15) hx hb dX0_needed_48 (by decide) ?_
                  exact ih_inn (k + 1) (by omega) (by omega) ls _ _ (by rw [cntA, if_neg c_39]; exact lv_sub hl [1, 2, 3, 4, 0] rfl) hP hS
                · refine lv_iinc (k := 3) (v := (cntA wt (nI (t + 1)) k) + 1) (lv' := [(3, .int ((cntA wt (nI (t + 1)) k) + 1)), (0, .ref bo), (1, .int (needA wt sq t)), (2, .int (nI (t + 1))), (4, .int (nI k))]) hx hb dX0_needed_42 hl rfl rfl (by decide) rfl (fun ls hl => ?_)
                  refine r_iinc (lv' := [(4, .int (nI (k + 1))), (3, .int ((cntA wt (nI (t + 1)) k) + 1)), (0, .ref bo), (1, .int (needA wt sq t)), (2, .int (nI (t + 1)))]) hx hb 4 k dX0_needed_45 hl rfl (by decide) rfl (fun ls hl => ?_)
                  refine lv_goto (tgt := 15) hx hb dX0_needed_48 (by decide) ?_
                  exact ih_inn (k + 1) (by omega) (by omega) ls _ _ (by rw [cntA, if_pos c_39]; exact lv_sub hl [2, 3, 4, 1, 0] rfl) hP hS
        exact inn _ 0 (by omega) (Nat.lt_succ_self _) ls _ _ (lv_sub hl [2, 3, 4, 1, 0] rfl) hP hS
  exact lp _ 0 (by omega) (Nat.lt_succ_self _) ls _ _ (lv_sub hl [2, 1, 0] rfl) hP hS
def rmX0_putGuard : Room := { frames := 0, cells := 0, slots := 0, locals := 0 }
theorem kdX0_putGuard : yX0_putGuard.cls = RX0 ∧ yX0_putGuard.cls ≠ "java/lang/invoke/MethodHandle" ∧ yX0_putGuard.cls ≠ "java/lang/invoke/VarHandle" ∧ (parseMethodDescriptor yX0_putGuard.desc).map (fun d => d.parameters.length) = some 2 := ⟨rfl, by decide +kernel, by decide +kernel, by decide +kernel⟩
set_option maxRecDepth 100000 in
set_option maxHeartbeats 1000000 in
theorem kX0_putGuard (l : Launch) (D : va_G) (cI cJ : ClassId) (bo ax ay az ab af ag sq : Nat) (sh lo : Int32) (bu gd : RowL) (k : Nat) (q : Int64) (hk : k < 49) : Met l yX0_putGuard wsX0_putGuard rmX0_putGuard (mPre D cI cJ [.ref bo, .int (nI k), .long q] [(bo, .inr (0, [.int (nI sq), .int sh, .int lo, .ref ax, .ref ay, .ref az, .ref ab, .ref af, .ref ag])), (ab, .inl (cJ, 49, .inr (.inl bu))), (ag, .inl (cJ, 49, .inr (.inl gd)))]) (mQv D (fun (_ : Unit) => True) (fun (_ : Unit) => [(bo, .inr (0, [.int (nI sq), .int sh, .int ((pgS bu k q (lo, gd)).1), .ref ax, .ref ay, .ref az, .ref ab, .ref af, .ref ag])), (ab, .inl (cJ, 49, .inr (.inl bu))), (ag, .inl (cJ, 49, .inr (.inl ((pgS bu k q (lo, gd)).2))))]) [(bo, .inr (0, [.int (nI sq), .int sh, .int lo, .ref ax, .ref ay, .ref az, .ref ab, .ref af, .ref ag])), (ab, .inl (cJ, 49, .inr (.inl bu))), (ag, .inl (cJ, 49, .inr (.inl gd)))]) 0 0 (mA [(bo, .inr (0, [.int (nI sq), .int sh, .int lo, .ref ax, .ref ay, .ref az, .ref ab, .ref af, .ref ag])), (ab, .inl (cJ, 49, .inr (.inl bu))), (ag, .inl (cJ, 49, .inr (.inl gd)))]) := by
  refine startM (cc := cX0_putGuard) (maxL := 4) (ret := none) (by decide) rfl (Nat.le_of_ble_eq_true rfl) ?_
  intro p e s m args below meth c ls Q A hA hQ hx hb hr hlocks hml hown hts hK hN hP hD hl hin
  have hown : s.vm.findClass RX0 = some m.cls := hown
  have hi_0 : ∀ w ∈ wsX00, w ∈ wsX0_putGuard := by decide +kernel
  have hf_21 := hts (.fieldLink RX0 21 "FireNets$Board" "burning" "[J") (by decide +kernel)
  have hf_28 := hts (.fieldLink RX0 28 "FireNets$Board" "guarded" "[J") (by decide +kernel)
  have hf_52 := hts (.fieldLink RX0 52 "FireNets$Board" "lost" "I") (by decide +kernel)
  have hS : va_S A s.heap s.heap [] := va_S.rf
  have hl : lv_has ls 4 [(0, .ref bo), (1, .int (nI k)), (2, .long q)] := hl
  have hP : va_P D vwCl [(bo, .inr (0, [.int (nI sq), .int sh, .int lo, .ref ax, .ref ay, .ref az, .ref ab, .ref af, .ref ag])), (ab, .inl (cJ, 49, .inr (.inl bu))), (ag, .inl (cJ, 49, .inr (.inl gd)))] s.heap := hP
  refine lv_iload_n hx hb dX0_putGuard_0 rfl (lv_at hl 1 rfl) ?_
  refine lv_if_lt (tgt := 10) hx hb dX0_putGuard_1 (by decide) (fun c_1 => ?_) (fun c_1 => ?_)
  · exact absurd c_1 (nI_pos (by omega))
  · refine lv_iload_n hx hb dX0_putGuard_4 rfl (lv_at hl 1 rfl) ?_
    refine lv_bipush (v := 49) hx hb dX0_putGuard_5 (by decide) ?_
    refine r_icmp_lt (tgt := 11) hx hb k 49 dX0_putGuard_7 (by decide) rfl rfl (by omega) (by omega) (fun c_7 => ?_) (fun c_7 => ?_)
    · refine lv_aload_n hx hb dX0_putGuard_11 rfl (lv_at hl 0 rfl) ?_
      refine va_get (D := D) (ci := 0) (v := .ref ab) (C := RX0) (T := TX0) (N := 9) hx hb hts hi_0 hown hK hP 0 rfl rfl 6 (by decide) hf_21 (fun _ h9 => h9) rfl dX0_putGuard_12 ?_
      refine lv_iload_n hx hb dX0_putGuard_15 rfl (lv_at hl 1 rfl) ?_
      refine r_lald hx hb hK hP 1 rfl k rfl (by omega) (by omega) dX0_putGuard_16 ?_
      refine lv_lload_n hx hb dX0_putGuard_17 rfl (lv_at hl 2 rfl) ?_
      refine lv_land hx hb dX0_putGuard_18 ?_
      refine lv_lconst (v := 0) hx hb dX0_putGuard_19 (by decide) ?_
      refine W.lcmp hx hb dX0_putGuard_20 ?_
      refine lv_if_eq (tgt := 37) hx hb dX0_putGuard_21 (by decide) (fun c_21 => ?_) (fun c_21 => ?_)
      · refine lv_aload_n hx hb dX0_putGuard_37 rfl (lv_at hl 0 rfl) ?_
        refine va_get (D := D) (ci := 0) (v := .ref ag) (C := RX0) (T := TX0) (N := 9) hx hb hts hi_0 hown hK hP 0 rfl rfl 8 (by decide) hf_28 (fun _ h9 => h9) rfl dX0_putGuard_38 ?_
        refine lv_iload_n hx hb dX0_putGuard_41 rfl (lv_at hl 1 rfl) ?_
        refine lv_dup2_11 hx hb dX0_putGuard_42 rfl rfl ?_
        refine r_lald hx hb hK hP 2 rfl k rfl (by omega) (by omega) dX0_putGuard_43 ?_
        refine lv_lload_n hx hb dX0_putGuard_44 rfl (lv_at hl 2 rfl) ?_
        refine lv_lor hx hb dX0_putGuard_45 ?_
        refine r_last hx hb hK hP hD hS 2 rfl k rfl (by omega) (by omega) dX0_putGuard_46 (fun H locs hP hD hS => ?_)
        have hP : va_P D vwCl [(bo, .inr (0, [.int (nI sq), .int sh, .int lo, .ref ax, .ref ay, .ref az, .ref ab, .ref af, .ref ag])), (ab, .inl (cJ, 49, .inr (.inl bu))), (ag, .inl (cJ, 49, .inr (.inl (vp_updL gd k ((gd k) ||| q)))))] H := hP
        have hD : va_D A [(bo, .inr (0, [.int (nI sq), .int sh, .int lo, .ref ax, .ref ay, .ref az, .ref ab, .ref af, .ref ag])), (ab, .inl (cJ, 49, .inr (.inl bu))), (ag, .inl (cJ, 49, .inr (.inl (vp_updL gd k ((gd k) ||| q)))))] := hD
        exact endMV () hx hb hr hlocks hA hQ hS hP dX0_putGuard_47 (by rw [pgS, if_pos c_21]) trivial
      · refine lv_aload_n hx hb dX0_putGuard_24 rfl (lv_at hl 0 rfl) ?_
        refine lv_dup hx hb dX0_putGuard_25 rfl ?_
        refine va_get (D := D) (ci := 0) (v := .int lo) (C := RX0) (T := TX0) (N := 9) hx hb hts hi_0 hown hK hP 0 rfl rfl 2 (by decide) hf_52 (fun _ h9 => h9) rfl dX0_putGuard_26 ?_
        refine lv_iconst (v := 1) hx hb dX0_putGuard_29 (by decide) ?_
        refine lv_iadd hx hb dX0_putGuard_30 ?_
        refine va_put (D := D) (ci := 0) (v := .int (lo + 1)) (ty := .int) (C := RX0) (T := TX0) (N := 9) hx hb hts hi_0 tyX0 tyX0_ok nmX0 hown hK hP hD hS 0 rfl rfl 2 (by decide) hf_52 (fun _ h9 => h9) rfl (by decide +kernel) rfl rfl (Nat.le_of_ble_eq_true rfl) dX0_putGuard_31 (fun H locs hP hD hS => ?_)
        have hP : va_P D vwCl [(bo, .inr (0, [.int (nI sq), .int sh, .int (lo + 1), .ref ax, .ref ay, .ref az, .ref ab, .ref af, .ref ag])), (ab, .inl (cJ, 49, .inr (.inl bu))), (ag, .inl (cJ, 49, .inr (.inl gd)))] H := hP
        have hD : va_D A [(bo, .inr (0, [.int (nI sq), .int sh, .int (lo + 1), .ref ax, .ref ay, .ref az, .ref ab, .ref af, .ref ag])), (ab, .inl (cJ, 49, .inr (.inl bu))), (ag, .inl (cJ, 49, .inr (.inl gd)))] := hD
        refine lv_goto (tgt := 47) hx hb dX0_putGuard_34 (by decide) ?_
        exact endMV () hx hb hr hlocks hA hQ hS hP dX0_putGuard_47 (by rw [pgS, if_neg c_21]) trivial
    · exact absurd c_7 (by omega)
def rmX0_putGuards : Room := { frames := 2, cells := 0, slots := 0, locals := 42 }
theorem kdX0_putGuards : yX0_putGuards.cls = RX0 ∧ yX0_putGuards.cls ≠ "java/lang/invoke/MethodHandle" ∧ yX0_putGuards.cls ≠ "java/lang/invoke/VarHandle" ∧ (parseMethodDescriptor yX0_putGuards.desc).map (fun d => d.parameters.length) = some 1 := ⟨rfl, by decide +kernel, by decide +kernel, by decide +kernel⟩
set_option maxRecDepth 100000 in
set_option maxHeartbeats 1000000 in
theorem kX0_putGuards (l : Launch) (D : va_G) (cI cJ : ClassId) (bo ax ay az ab af ag sq : Nat) (sh lo : Int32) (wx wy wt : Row) (bu gd : RowL) (t : Int32) (hsq : sq ≤ 40) : Met l yX0_putGuards wsX0_putGuards rmX0_putGuards (mPre D cI cJ [.ref bo, .int t] [(bo, .inr (0, [.int (nI sq), .int sh, .int lo, .ref ax, .ref ay, .ref az, .ref ab, .ref af, .ref ag])), (ax, .inl (cI, 40, .inl wx)), (ay, .inl (cI, 40, .inl wy)), (az, .inl (cI, 40, .inl wt)), (ab, .inl (cJ, 49, .inr (.inl bu))), (ag, .inl (cJ, 49, .inr (.inl gd)))]) (mQv D (fun (_ : Unit) => True) (fun (_ : Unit) => [(bo, .inr (0, [.int (nI sq), .int sh, .int ((pgA bu wx wy wt t (lo, gd) sq).1), .ref ax, .ref ay, .ref az, .ref ab, .ref af, .ref ag])), (ax, .inl (cI, 40, .inl wx)), (ay, .inl (cI, 40, .inl wy)), (az, .inl (cI, 40, .inl wt)), (ab, .inl (cJ, 49, .inr (.inl bu))), (ag, .inl (cJ, 49, .inr (.inl ((pgA bu wx wy wt t (lo, gd) sq).2))))]) [(bo, .inr (0, [.int (nI sq), .int sh, .int lo, .ref ax, .ref ay, .ref az, .ref ab, .ref af, .ref ag])), (ax, .inl (cI, 40, .inl wx)), (ay, .inl (cI, 40, .inl wy)), (az, .inl (cI, 40, .inl wt)), (ab, .inl (cJ, 49, .inr (.inl bu))), (ag, .inl (cJ, 49, .inr (.inl gd)))]) 0 0 (mA [(bo, .inr (0, [.int (nI sq), .int sh, .int lo, .ref ax, .ref ay, .ref az, .ref ab, .ref af, .ref ag])), (ax, .inl (cI, 40, .inl wx)), (ay, .inl (cI, 40, .inl wy)), (az, .inl (cI, 40, .inl wt)), (ab, .inl (cJ, 49, .inr (.inl bu))), (ag, .inl (cJ, 49, .inr (.inl gd)))]) := by
  refine startM (cc := cX0_putGuards) (maxL := 3) (ret := none) (by decide) rfl (Nat.le_of_ble_eq_true rfl) ?_
  intro p e s m args below meth c ls Q A hA hQ hx hb hr hlocks hml hown hts hK hN hP hD hl hin
  have hown : s.vm.findClass RX0 = some m.cls := hown
  have hi_0 : ∀ w ∈ wsX00, w ∈ wsX0_putGuards := by decide +kernel
  have hf_11 := hts (.fieldLink RX0 11 "FireNets$Board" "wallX" "[I") (by decide +kernel)
  have hf_15 := hts (.fieldLink RX0 15 "FireNets$Board" "wallY" "[I") (by decide +kernel)
  have hf_18 := hts (.fieldLink RX0 18 "FireNets$Board" "wallTick" "[I") (by decide +kernel)
  have hf_31 := hts (.fieldLink RX0 31 "FireNets$Board" "squares" "I") (by decide +kernel)
  have hS : va_S A s.heap s.heap [] := va_S.rf
  have hl : lv_has ls 3 [(0, .ref bo), (1, .int t)] := hl
  have hP : va_P D vwCl [(bo, .inr (0, [.int (nI sq), .int sh, .int lo, .ref ax, .ref ay, .ref az, .ref ab, .ref af, .ref ag])), (ax, .inl (cI, 40, .inl wx)), (ay, .inl (cI, 40, .inl wy)), (az, .inl (cI, 40, .inl wt)), (ab, .inl (cJ, 49, .inr (.inl bu))), (ag, .inl (cJ, 49, .inr (.inl gd)))] s.heap := hP
  refine lv_iconst (v := 0) hx hb dX0_putGuards_0 (by decide) ?_
  refine lv_istore_n (lv' := [(2, .int 0), (0, .ref bo), (1, .int t)]) hx hb dX0_putGuards_1 rfl hl (by decide) rfl (fun ls hl => ?_)
  have lp : ∀ (fu : Nat) (k : Nat), (k ≤ sq) → sq - k < fu → ∀ (ls : Array Slot) (H : Heap) (locs : List Loc), lv_has ls 3 [(0, .ref bo), (1, .int t), (2, .int (nI k))] → va_P D vwCl [(bo, .inr (0, [.int (nI sq), .int sh, .int ((pgA bu wx wy wt t (lo, gd) k).1), .ref ax, .ref ay, .ref az, .ref ab, .ref af, .ref ag])), (ax, .inl (cI, 40, .inl wx)), (ay, .inl (cI, 40, .inl wy)), (az, .inl (cI, 40, .inl wt)), (ab, .inl (cJ, 49, .inr (.inl bu))), (ag, .inl (cJ, 49, .inr (.inl ((pgA bu wx wy wt t (lo, gd) k).2))))] H → va_D A [(bo, .inr (0, [.int (nI sq), .int sh, .int ((pgA bu wx wy wt t (lo, gd) k).1), .ref ax, .ref ay, .ref az, .ref ab, .ref af, .ref ag])), (ax, .inl (cI, 40, .inl wx)), (ay, .inl (cI, 40, .inl wy)), (az, .inl (cI, 40, .inl wt)), (ab, .inl (cJ, 49, .inr (.inl bu))), (ag, .inl (cJ, 49, .inr (.inl ((pgA bu wx wy wt t (lo, gd) k).2))))] → va_S A s.heap H locs → W p l e rmX0_putGuards s m args below meth c H locs 0 0 Q (F0 m 2 ls []) := by
    intro fu
    induction fu with
    | zero => intro k hk hf; exact absurd hf (Nat.not_lt_zero _)
    | succ fu ih_lp =>
      intro k hk hf ls H locs hl hP hD hS
      refine lv_iload_n hx hb dX0_putGuards_2 rfl (lv_at hl 2 rfl) ?_
      refine lv_aload_n hx hb dX0_putGuards_3 rfl (lv_at hl 0 rfl) ?_
      refine va_get (D := D) (ci := 0) (v := .int (nI sq)) (C := RX0) (T := TX0) (N := 9) hx hb hts hi_0 hown hK hP 0 rfl rfl 0 (by decide) hf_31 (fun _ h9 => h9) rfl dX0_putGuards_4 ?_
      refine r_icmp_ge (tgt := 80) hx hb k sq dX0_putGuards_7 (by decide) rfl rfl (by omega) (by omega) (fun c_7 => ?_) (fun c_7 => ?_)
      · exact endMV () hx hb hr hlocks hA hQ hS hP dX0_putGuards_80 (by rw [show k = sq by omega]) trivial
      · refine lv_iload_n hx hb dX0_putGuards_10 rfl (lv_at hl 2 rfl) ?_
        refine lv_bipush (v := 40) hx hb dX0_putGuards_11 (by decide) ?_
        refine r_icmp_ge (tgt := 80) hx hb k 40 dX0_putGuards_13 (by decide) rfl rfl (by omega) (by omega) (fun c_13 => ?_) (fun c_13 => ?_)
        · exact absurd c_13 (by omega)
        · refine lv_aload_n hx hb dX0_putGuards_16 rfl (lv_at hl 0 rfl) ?_
          refine va_get (D := D) (ci := 0) (v := .ref az) (C := RX0) (T := TX0) (N := 9) hx hb hts hi_0 hown hK hP 0 rfl rfl 5 (by decide) hf_18 (fun _ h9 => h9) rfl dX0_putGuards_17 ?_
          refine lv_iload_n hx hb dX0_putGuards_20 rfl (lv_at hl 2 rfl) ?_
          refine r_iald hx hb hK hP 3 rfl k rfl (by omega) (by omega) dX0_putGuards_21 ?_
          refine lv_iload_n hx hb dX0_putGuards_22 rfl (lv_at hl 1 rfl) ?_
          refine lv_icmp_ne (tgt := 74) hx hb dX0_putGuards_23 (by decide) (fun c_23 => ?_) (fun c_23 => ?_)
          · refine r_iinc (lv' := [(2, .int (nI (k + 1))), (0, .ref bo), (1, .int t)]) hx hb 2 k dX0_putGuards_74 hl rfl (by decide) rfl (fun ls hl => ?_)
            refine lv_goto (tgt := 2) hx hb dX0_putGuards_77 (by decide) ?_
            exact ih_lp (k + 1) (by omega) (by omega) ls _ _ (lv_sub hl [1, 2, 0] rfl) (by rw [pgA, if_neg (fun h => c_23 h.1)]; exact hP) (by rw [pgA, if_neg (fun h => c_23 h.1)]; exact hD) hS
          · refine lv_aload_n hx hb dX0_putGuards_26 rfl (lv_at hl 0 rfl) ?_
            refine va_get (D := D) (ci := 0) (v := .ref ax) (C := RX0) (T := TX0) (N := 9) hx hb hts hi_0 hown hK hP 0 rfl rfl 3 (by decide) hf_11 (fun _ h9 => h9) rfl dX0_putGuards_27 ?_
            refine lv_iload_n hx hb dX0_putGuards_30 rfl (lv_at hl 2 rfl) ?_
            refine r_iald hx hb hK hP 1 rfl k rfl (by omega) (by omega) dX0_putGuards_31 ?_
            refine goRI hP hS (va_runS (As := [.int (wx k)]) (rest := []) ⟨hx, hb, hml, hown, hts⟩ (kX0_onRows l D cI cJ (wx k)) (va_cwS 1 hts gX0_putGuards_X0_onRows rfl rfl rfl kdX0_onRows.2 ⟨Nat.le_of_ble_eq_true rfl, Nat.le_of_ble_eq_true rfl⟩) (preR hK hN hP [] rfl) rfl rfl hl.1 rfl (lv_room (Nat.le_of_ble_eq_true rfl)) dX0_putGuards_32 ⟨Nat.zero_le _, Nat.zero_le _⟩) (fun H locs hP hS => ?_)
            refine r_zeq (tgt := 74) hx hb dX0_putGuards_35 (by decide) (fun c_35 => ?_) (fun c_35 => ?_)
            · refine r_iinc (lv' := [(2, .int (nI (k + 1))), (0, .ref bo), (1, .int t)]) hx hb 2 k dX0_putGuards_74 hl rfl (by decide) rfl (fun ls hl => ?_)
              refine lv_goto (tgt := 2) hx hb dX0_putGuards_77 (by decide) ?_
              exact ih_lp (k + 1) (by omega) (by omega) ls _ _ (lv_sub hl [1, 2, 0] rfl) (by rw [pgA, if_neg (fun h => c_35 h.2.1)]; exact hP) (by rw [pgA, if_neg (fun h => c_35 h.2.1)]; exact hD) hS
            · refine lv_aload_n hx hb dX0_putGuards_38 rfl (lv_at hl 0 rfl) ?_
              refine va_get (D := D) (ci := 0) (v := .ref ay) (C := RX0) (T := TX0) (N := 9) hx hb hts hi_0 hown hK hP 0 rfl rfl 4 (by decide) hf_15 (fun _ h9 => h9) rfl dX0_putGuards_39 ?_
              refine lv_iload_n hx hb dX0_putGuards_42 rfl (lv_at hl 2 rfl) ?_
              refine r_iald hx hb hK hP 2 rfl k rfl (by omega) (by omega) dX0_putGuards_43 ?_
              refine goRI hP hS (va_runS (As := [.int (wy k)]) (rest := []) ⟨hx, hb, hml, hown, hts⟩ (kX0_onRows l D cI cJ (wy k)) (va_cwS 1 hts gX0_putGuards_X0_onRows rfl rfl rfl kdX0_onRows.2 ⟨Nat.le_of_ble_eq_true rfl, Nat.le_of_ble_eq_true rfl⟩) (preR hK hN hP [] rfl) rfl rfl hl.1 rfl (lv_room (Nat.le_of_ble_eq_true rfl)) dX0_putGuards_44 ⟨Nat.zero_le _, Nat.zero_le _⟩) (fun H locs hP hS => ?_)
              refine r_zeq (tgt := 74) hx hb dX0_putGuards_47 (by decide) (fun c_47 => ?_) (fun c_47 => ?_)
              · refine r_iinc (lv' := [(2, .int (nI (k + 1))), (0, .ref bo), (1, .int t)]) hx hb 2 k dX0_putGuards_74 hl rfl (by decide) rfl (fun ls hl => ?_)
                refine lv_goto (tgt := 2) hx hb dX0_putGuards_77 (by decide) ?_
                exact ih_lp (k + 1) (by omega) (by omega) ls _ _ (lv_sub hl [1, 2, 0] rfl) (by rw [pgA, if_neg (fun h => c_47 h.2.2)]; exact hP) (by rw [pgA, if_neg (fun h => c_47 h.2.2)]; exact hD) hS
              · refine lv_aload_n hx hb dX0_putGuards_50 rfl (lv_at hl 0 rfl) ?_
                refine lv_aload_n hx hb dX0_putGuards_51 rfl (lv_at hl 0 rfl) ?_
                refine va_get (D := D) (ci := 0) (v := .ref ay) (C := RX0) (T := TX0) (N := 9) hx hb hts hi_0 hown hK hP 0 rfl rfl 4 (by decide) hf_15 (fun _ h9 => h9) rfl dX0_putGuards_52 ?_
                refine lv_iload_n hx hb dX0_putGuards_55 rfl (lv_at hl 2 rfl) ?_
                refine r_iald hx hb hK hP 2 rfl k rfl (by omega) (by omega) dX0_putGuards_56 ?_
                refine lv_bipush (v := 24) hx hb dX0_putGuards_57 (by decide) ?_
                refine lv_iadd hx hb dX0_putGuards_59 ?_
                obtain ⟨rq, hrq, erq⟩ := row_ix c_47
                refine r_top erq ?_
                refine lv_lconst (v := 1) hx hb dX0_putGuards_60 (by decide) ?_
                refine lv_aload_n hx hb dX0_putGuards_61 rfl (lv_at hl 0 rfl) ?_
                refine va_get (D := D) (ci := 0) (v := .ref ax) (C := RX0) (T := TX0) (N := 9) hx hb hts hi_0 hown hK hP 0 rfl rfl 3 (by decide) hf_11 (fun _ h9 => h9) rfl dX0_putGuards_62 ?_
                refine lv_iload_n hx hb dX0_putGuards_65 rfl (lv_at hl 2 rfl) ?_
                refine r_iald hx hb hK hP 1 rfl k rfl (by omega) (by omega) dX0_putGuards_66 ?_
                refine lv_bipush (v := 24) hx hb dX0_putGuards_67 (by decide) ?_
                refine lv_iadd hx hb dX0_putGuards_69 ?_
                refine lv_lshl (v := (1 : Int64) <<< (((wx k) + 24).toInt64 &&& 63)) hx hb dX0_putGuards_70 rfl ?_
                refine goMV hP hD hS (va_runV (As := [.int (nI rq), .long ((1 : Int64) <<< (((wx k) + 24).toInt64 &&& 63))]) (rest := []) ⟨hx, hb, hml, hown, hts⟩ (kX0_putGuard l D cI cJ bo ax ay az ab af ag sq sh ((pgA bu wx wy wt t (lo, gd) k).1) bu ((pgA bu wx wy wt t (lo, gd) k).2) rq ((1 : Int64) <<< (((wx k) + 24).toInt64 &&& 63)) (by omega)) (cwV 2 hts gX0_putGuards_X0_putGuard rfl rfl rfl kdX0_putGuard ⟨Nat.le_of_ble_eq_true rfl, Nat.le_of_ble_eq_true rfl⟩) (preMV hK hN hP hD 0 (ci := 0) rfl rfl rfl [0, 4, 5] rfl (by decide)) rfl rfl hl.1 rfl (lv_room (Nat.le_of_ble_eq_true rfl)) dX0_putGuards_71 ⟨Nat.zero_le _, Nat.zero_le _⟩) [0, 4, 5] rfl (by decide) (fun _ => (show ([bo, ab, ag] : List Nat) = [bo, ab, ag] from rfl)) (fun _ H locs hp_71 hP hD hS => ?_)
                have hP : va_P D vwCl [(bo, .inr (0, [.int (nI sq), .int sh, .int ((pgS bu rq ((1 : Int64) <<< (((wx k) + 24).toInt64 &&& 63)) (((pgA bu wx wy wt t (lo, gd) k).1), ((pgA bu wx wy wt t (lo, gd) k).2))).1), .ref ax, .ref ay, .ref az, .ref ab, .ref af, .ref ag])), (ax, .inl (cI, 40, .inl wx)), (ay, .inl (cI, 40, .inl wy)), (az, .inl (cI, 40, .inl wt)), (ab, .inl (cJ, 49, .inr (.inl bu))), (ag, .inl (cJ, 49, .inr (.inl ((pgS bu rq ((1 : Int64) <<< (((wx k) + 24).toInt64 &&& 63)) (((pgA bu wx wy wt t (lo, gd) k).1), ((pgA bu wx wy wt t (lo, gd) k).2))).2))))] H := hP
                have hD : va_D A [(bo, .inr (0, [.int (nI sq), .int sh, .int ((pgS bu rq ((1 : Int64) <<< (((wx k) + 24).toInt64 &&& 63)) (((pgA bu wx wy wt t (lo, gd) k).1), ((pgA bu wx wy wt t (lo, gd) k).2))).1), .ref ax, .ref ay, .ref az, .ref ab, .ref af, .ref ag])), (ax, .inl (cI, 40, .inl wx)), (ay, .inl (cI, 40, .inl wy)), (az, .inl (cI, 40, .inl wt)), (ab, .inl (cJ, 49, .inr (.inl bu))), (ag, .inl (cJ, 49, .inr (.inl ((pgS bu rq ((1 : Int64) <<< (((wx k) + 24).toInt64 &&& 63)) (((pgA bu wx wy wt t (lo, gd) k).1), ((pgA bu wx wy wt t (lo, gd) k).2))).2))))] := hD
                refine r_iinc (lv' := [(2, .int (nI (k + 1))), (0, .ref bo), (1, .int t)]) hx hb 2 k dX0_putGuards_74 hl rfl (by decide) rfl (fun ls hl => ?_)
                refine lv_goto (tgt := 2) hx hb dX0_putGuards_77 (by decide) ?_
                exact ih_lp (k + 1) (by omega) (by omega) ls _ _ (lv_sub hl [1, 2, 0] rfl) (by rw [pgA, if_pos ⟨c_23, c_35, c_47⟩, erq, nI_clamp (by omega)]; exact hP) (by rw [pgA, if_pos ⟨c_23, c_35, c_47⟩, erq, nI_clamp (by omega)]; exact hD) hS
  exact lp _ 0 (by omega) (Nat.lt_succ_self _) ls _ _ (lv_sub hl [1, 2, 0] rfl) hP hD hS
def rmX0_rowAt : Room := { frames := 0, cells := 0, slots := 0, locals := 0 }
theorem kdX0_rowAt : yX0_rowAt.cls = RX0 ∧ yX0_rowAt.cls ≠ "java/lang/invoke/MethodHandle" ∧ yX0_rowAt.cls ≠ "java/lang/invoke/VarHandle" ∧ (parseMethodDescriptor yX0_rowAt.desc).map (fun d => d.parameters.length) = some 1 := ⟨rfl, by decide +kernel, by decide +kernel, by decide +kernel⟩
set_option maxRecDepth 100000 in
set_option maxHeartbeats 1000000 in
theorem kX0_rowAt (l : Launch) (D : va_G) (cI cJ : ClassId) (bo ax ay az ab af ag sq : Nat) (sh lo : Int32) (bu : RowL) (j : Int32)  : Met l yX0_rowAt wsX0_rowAt rmX0_rowAt (rPre D cI cJ [.ref bo, .int j] [(bo, .inr (0, [.int (nI sq), .int sh, .int lo, .ref ax, .ref ay, .ref az, .ref ab, .ref af, .ref ag])), (ab, .inl (cJ, 49, .inr (.inl bu)))]) (qRL (rowI bu j)) 0 0 nA := by
  refine startR (cc := cX0_rowAt) (maxL := 2) (ret := (some .long)) (by decide) rfl (Nat.le_of_ble_eq_true rfl) ?_
  intro p e s m args below meth c ls Q hQ hx hb hr hlocks hml hown hts hK hN hP hl hin
  have hown : s.vm.findClass RX0 = some m.cls := hown
  have hi_0 : ∀ w ∈ wsX00, w ∈ wsX0_rowAt := by decide +kernel
  have hf_21 := hts (.fieldLink RX0 21 "FireNets$Board" "burning" "[J") (by decide +kernel)
  have hS : va_S nA s.heap s.heap [] := va_S.rf
  have hl : lv_has ls 2 [(0, .ref bo), (1, .int j)] := hl
  have hP : va_P D vwCl [(bo, .inr (0, [.int (nI sq), .int sh, .int lo, .ref ax, .ref ay, .ref az, .ref ab, .ref af, .ref ag])), (ab, .inl (cJ, 49, .inr (.inl bu)))] s.heap := hP
  refine lv_iload_n hx hb dX0_rowAt_0 rfl (lv_at hl 1 rfl) ?_
  refine lv_if_lt (tgt := 10) hx hb dX0_rowAt_1 (by decide) (fun c_1 => ?_) (fun c_1 => ?_)
  · refine lv_lconst (v := 0) hx hb dX0_rowAt_10 (by decide) ?_
    refine lv_goto (tgt := 20) hx hb dX0_rowAt_11 (by decide) ?_
    exact endRL hx hb hr hlocks hQ hS dX0_rowAt_20 (by rw [rowI, if_pos c_1])
  · refine lv_iload_n hx hb dX0_rowAt_4 rfl (lv_at hl 1 rfl) ?_
    refine lv_bipush (v := 49) hx hb dX0_rowAt_5 (by decide) ?_
    refine lv_icmp_lt (tgt := 14) hx hb dX0_rowAt_7 (by decide) (fun c_7 => ?_) (fun c_7 => ?_)
    · refine lv_aload_n hx hb dX0_rowAt_14 rfl (lv_at hl 0 rfl) ?_
      refine va_get (D := D) (ci := 0) (v := .ref ab) (C := RX0) (T := TX0) (N := 9) hx hb hts hi_0 hown hK hP 0 rfl rfl 6 (by decide) hf_21 (fun _ h9 => h9) rfl dX0_rowAt_15 ?_
      refine lv_iload_n hx hb dX0_rowAt_18 rfl (lv_at hl 1 rfl) ?_
      refine r_lald hx hb hK hP 1 rfl j.toNatClampNeg (i_cl c_1) (i_cll c_1 c_7 (by omega)) (Nat.lt_trans (i_cll (n := 49) c_1 c_7 (by omega)) (by omega)) dX0_rowAt_19 ?_
      exact endRL hx hb hr hlocks hQ hS dX0_rowAt_20 (by rw [rowI, if_neg c_1, if_pos c_7])
    · refine lv_lconst (v := 0) hx hb dX0_rowAt_10 (by decide) ?_
      refine lv_goto (tgt := 20) hx hb dX0_rowAt_11 (by decide) ?_
      exact endRL hx hb hr hlocks hQ hS dX0_rowAt_20 (by rw [rowI, if_neg c_1, if_neg c_7])
def rmX0_spread : Room := { frames := 1, cells := 0, slots := 0, locals := 60 }
theorem kdX0_spread : yX0_spread.cls = RX0 ∧ yX0_spread.cls ≠ "java/lang/invoke/MethodHandle" ∧ yX0_spread.cls ≠ "java/lang/invoke/VarHandle" ∧ (parseMethodDescriptor yX0_spread.desc).map (fun d => d.parameters.length) = some 0 := ⟨rfl, by decide +kernel, by decide +kernel, by decide +kernel⟩
set_option maxRecDepth 100000 in
set_option maxHeartbeats 1000000 in
theorem kX0_spread (l : Launch) (D : va_G) (cI cJ : ClassId) (bo ax ay az ab af ag sq : Nat) (sh lo : Int32) (bu aq gd : RowL)  : Met l yX0_spread wsX0_spread rmX0_spread (mPre D cI cJ [.ref bo] [(bo, .inr (0, [.int (nI sq), .int sh, .int lo, .ref ax, .ref ay, .ref az, .ref ab, .ref af, .ref ag])), (ab, .inl (cJ, 49, .inr (.inl bu))), (af, .inl (cJ, 49, .inr (.inl aq))), (ag, .inl (cJ, 49, .inr (.inl gd)))]) (mQi D (fun (r : Int32) (_ : Unit) => r = (zb (moreA bu gd 49 = true))) (fun (_ : Unit) => [(bo, .inr (0, [.int (nI sq), .int sh, .int lo, .ref ax, .ref ay, .ref az, .ref ab, .ref af, .ref ag])), (ab, .inl (cJ, 49, .inr (.inl (va_cpy (aftA bu gd aq 49) bu 0 0 49)))), (af, .inl (cJ, 49, .inr (.inl (aftA bu gd aq 49)))), (ag, .inl (cJ, 49, .inr (.inl gd)))]) [(bo, .inr (0, [.int (nI sq), .int sh, .int lo, .ref ax, .ref ay, .ref az, .ref ab, .ref af, .ref ag])), (ab, .inl (cJ, 49, .inr (.inl bu))), (af, .inl (cJ, 49, .inr (.inl aq))), (ag, .inl (cJ, 49, .inr (.inl gd)))]) 0 0 (mA [(bo, .inr (0, [.int (nI sq), .int sh, .int lo, .ref ax, .ref ay, .ref az, .ref ab, .ref af, .ref ag])), (ab, .inl (cJ, 49, .inr (.inl bu))), (af, .inl (cJ, 49, .inr (.inl aq))), (ag, .inl (cJ, 49, .inr (.inl gd)))]) := by
  refine startM (cc := cX0_spread) (maxL := 7) (ret := (some .boolean)) (by decide) rfl (Nat.le_of_ble_eq_true rfl) ?_
  intro p e s m args below meth c ls Q A hA hQ hx hb hr hlocks hml hown hts hK hN hP hD hl hin
  have hown : s.vm.findClass RX0 = some m.cls := hown
  have hi_0 : ∀ w ∈ wsX00, w ∈ wsX0_spread := by decide +kernel
  have hf_21 := hts (.fieldLink RX0 21 "FireNets$Board" "burning" "[J") (by decide +kernel)
  have hf_25 := hts (.fieldLink RX0 25 "FireNets$Board" "after" "[J") (by decide +kernel)
  have hf_28 := hts (.fieldLink RX0 28 "FireNets$Board" "guarded" "[J") (by decide +kernel)
  have ha0 := hts (.methodLink RX0 81 arraycopyName) (by decide +kernel)
  have ha1 := hts (.native arraycopyName) (by decide +kernel)
  have ha2 := hts (.static arraycopyName) (by decide +kernel)
  have ha3 := hts (.initialized "java/lang/System") (by decide +kernel)
  have hc_79 := hts (.constantLong RX0 79 (-1)) (by decide +kernel)
  have hS : va_S A s.heap s.heap [] := va_S.rf
  have hl : lv_has ls 7 [(0, .ref bo)] := hl
  have hP : va_P D vwCl [(bo, .inr (0, [.int (nI sq), .int sh, .int lo, .ref ax, .ref ay, .ref az, .ref ab, .ref af, .ref ag])), (ab, .inl (cJ, 49, .inr (.inl bu))), (af, .inl (cJ, 49, .inr (.inl aq))), (ag, .inl (cJ, 49, .inr (.inl gd)))] s.heap := hP
  refine lv_iconst (v := 0) hx hb dX0_spread_0 (by decide) ?_
  refine lv_istore_n (lv' := [(1, .int 0), (0, .ref bo)]) hx hb dX0_spread_1 rfl hl (by decide) rfl (fun ls hl => ?_)
  refine lv_iconst (v := 0) hx hb dX0_spread_2 (by decide) ?_
  refine lv_istore_n (lv' := [(2, .int 0), (1, .int 0), (0, .ref bo)]) hx hb dX0_spread_3 rfl hl (by decide) rfl (fun ls hl => ?_)
  have lp : ∀ (fu : Nat) (k : Nat), (k ≤ 49) → 49 - k < fu → ∀ (ls : Array Slot) (H : Heap) (locs : List Loc), lv_has ls 7 [(0, .ref bo), (1, .int (zb (moreA bu gd k = true))), (2, .int (nI k))] → va_P D vwCl [(bo, .inr (0, [.int (nI sq), .int sh, .int lo, .ref ax, .ref ay, .ref az, .ref ab, .ref af, .ref ag])), (ab, .inl (cJ, 49, .inr (.inl bu))), (af, .inl (cJ, 49, .inr (.inl (aftA bu gd aq k)))), (ag, .inl (cJ, 49, .inr (.inl gd)))] H → va_D A [(bo, .inr (0, [.int (nI sq), .int sh, .int lo, .ref ax, .ref ay, .ref az, .ref ab, .ref af, .ref ag])), (ab, .inl (cJ, 49, .inr (.inl bu))), (af, .inl (cJ, 49, .inr (.inl (aftA bu gd aq k)))), (ag, .inl (cJ, 49, .inr (.inl gd)))] → va_S A s.heap H locs → W p l e rmX0_spread s m args below meth c H locs 0 0 Q (F0 m 4 ls []) := by
    intro fu
    induction fu with
    | zero => intro k hk hf; exact absurd hf (Nat.not_lt_zero _)
    | succ fu ih_lp =>
      intro k hk hf ls H locs hl hP hD hS
      refine lv_iload_n hx hb dX0_spread_4 rfl (lv_at hl 2 rfl) ?_
      refine lv_bipush (v := 49) hx hb dX0_spread_5 (by decide) ?_
      refine r_icmp_ge (tgt := 82) hx hb k 49 dX0_spread_7 (by decide) rfl rfl (by omega) (by omega) (fun c_7 => ?_) (fun c_7 => ?_)
      · refine lv_aload_n hx hb dX0_spread_82 rfl (lv_at hl 0 rfl) ?_
        refine va_get (D := D) (ci := 0) (v := .ref af) (C := RX0) (T := TX0) (N := 9) hx hb hts hi_0 hown hK hP 0 rfl rfl 7 (by decide) hf_25 (fun _ h9 => h9) rfl dX0_spread_83 ?_
        refine lv_iconst (v := 0) hx hb dX0_spread_86 (by decide) ?_
        refine lv_aload_n hx hb dX0_spread_87 rfl (lv_at hl 0 rfl) ?_
        refine va_get (D := D) (ci := 0) (v := .ref ab) (C := RX0) (T := TX0) (N := 9) hx hb hts hi_0 hown hK hP 0 rfl rfl 6 (by decide) hf_21 (fun _ h9 => h9) rfl dX0_spread_88 ?_
        refine lv_iconst (v := 0) hx hb dX0_spread_91 (by decide) ?_
        refine lv_bipush (v := 49) hx hb dX0_spread_92 (by decide) ?_
        refine va_copyl (ty := .long) hx hb (hml.trans hl.1.symm) hown ha0 ha1 ha2 ha3 hK hP hD hS 2 1 1 1 rfl rfl rfl rfl rfl (by decide) (by decide) (by decide) (by decide) (by decide) (fun _ _ => rfl) (Nat.le_of_ble_eq_true rfl) (Nat.le_of_ble_eq_true rfl) dX0_spread_94 (fun H locs hP hD hS => ?_)
        have hP : va_P D vwCl [(bo, .inr (0, [.int (nI sq), .int sh, .int lo, .ref ax, .ref ay, .ref az, .ref ab, .ref af, .ref ag])), (ab, .inl (cJ, 49, .inr (.inl (va_cpy (aftA bu gd aq k) bu 0 0 49)))), (af, .inl (cJ, 49, .inr (.inl (aftA bu gd aq k)))), (ag, .inl (cJ, 49, .inr (.inl gd)))] H := hP
        have hD : va_D A [(bo, .inr (0, [.int (nI sq), .int sh, .int lo, .ref ax, .ref ay, .ref az, .ref ab, .ref af, .ref ag])), (ab, .inl (cJ, 49, .inr (.inl (va_cpy (aftA bu gd aq k) bu 0 0 49)))), (af, .inl (cJ, 49, .inr (.inl (aftA bu gd aq k)))), (ag, .inl (cJ, 49, .inr (.inl gd)))] := hD
        refine lv_iload_n hx hb dX0_spread_97 rfl (lv_at hl 1 rfl) ?_
        exact endMZ () hx hb hr hlocks hA hQ hS hP dX0_spread_98 zb_nar (by rw [show k = 49 by omega]) (by rw [show k = 49 by omega])
      · refine lv_aload_n hx hb dX0_spread_10 rfl (lv_at hl 0 rfl) ?_
        refine va_get (D := D) (ci := 0) (v := .ref ab) (C := RX0) (T := TX0) (N := 9) hx hb hts hi_0 hown hK hP 0 rfl rfl 6 (by decide) hf_21 (fun _ h9 => h9) rfl dX0_spread_11 ?_
        refine lv_iload_n hx hb dX0_spread_14 rfl (lv_at hl 2 rfl) ?_
        refine r_lald hx hb hK hP 1 rfl k rfl (by omega) (by omega) dX0_spread_15 ?_
        refine lv_lstore_n (lv' := [(3, .long (bu k)), (0, .ref bo), (1, .int (zb (moreA bu gd k = true))), (2, .int (nI k))]) hx hb dX0_spread_16 rfl hl (by decide) rfl (fun ls hl => ?_)
        refine lv_lload_n hx hb dX0_spread_17 rfl (lv_at hl 0 rfl) ?_
        refine lv_iconst (v := 1) hx hb dX0_spread_18 (by decide) ?_
        refine lv_lshl (v := (bu k) <<< ((1 : Int32).toInt64 &&& 63)) hx hb dX0_spread_19 rfl ?_
        refine lv_lload_n hx hb dX0_spread_20 rfl (lv_at hl 0 rfl) ?_
        refine lv_iconst (v := 1) hx hb dX0_spread_21 (by decide) ?_
        refine lv_lushr (v := ((bu k).toUInt64 >>> ((1 : Int32).toInt64.toUInt64 &&& Int64.toUInt64 63)).toInt64) hx hb dX0_spread_22 rfl ?_
        refine lv_lor hx hb dX0_spread_23 ?_
        refine lv_aload_n hx hb dX0_spread_24 rfl (lv_at hl 1 rfl) ?_
        refine lv_iload_n hx hb dX0_spread_25 rfl (lv_at hl 3 rfl) ?_
        refine lv_iconst (v := 1) hx hb dX0_spread_26 (by decide) ?_
        refine lv_isub hx hb dX0_spread_27 ?_
        refine goRL hP hS (va_runV (As := [.int ((nI k) - 1)]) (rest := [.long (((bu k) <<< ((1 : Int32).toInt64 &&& 63)) ||| (((bu k).toUInt64 >>> ((1 : Int32).toInt64.toUInt64 &&& Int64.toUInt64 63)).toInt64))]) ⟨hx, hb, hml, hown, hts⟩ (kX0_rowAt l D cI cJ bo ax ay az ab af ag sq sh lo bu ((nI k) - 1)) (cwV 1 hts gX0_spread_X0_rowAt rfl rfl rfl kdX0_rowAt ⟨Nat.le_of_ble_eq_true rfl, Nat.le_of_ble_eq_true rfl⟩) (preRV hK hN hP 0 (ci := 0) rfl rfl rfl [0, 1] rfl) rfl rfl hl.1 rfl (lv_room (Nat.le_of_ble_eq_true rfl)) dX0_spread_28 ⟨Nat.zero_le _, Nat.zero_le _⟩) (fun H locs hP hS => ?_)
        refine lv_lor hx hb dX0_spread_31 ?_
        refine lv_aload_n hx hb dX0_spread_32 rfl (lv_at hl 1 rfl) ?_
        refine lv_iload_n hx hb dX0_spread_33 rfl (lv_at hl 3 rfl) ?_
        refine lv_iconst (v := 1) hx hb dX0_spread_34 (by decide) ?_
        refine lv_iadd hx hb dX0_spread_35 ?_
        refine r_top (x' := nI (k + 1)) (nI_add k 1) ?_
        refine goRL hP hS (va_runV (As := [.int (nI (k + 1))]) (rest := [.long ((((bu k) <<< ((1 : Int32).toInt64 &&& 63)) ||| (((bu k).toUInt64 >>> ((1 : Int32).toInt64.toUInt64 &&& Int64.toUInt64 63)).toInt64)) ||| (rowI bu ((nI k) - 1)))]) ⟨hx, hb, hml, hown, hts⟩ (kX0_rowAt l D cI cJ bo ax ay az ab af ag sq sh lo bu (nI (k + 1))) (cwV 1 hts gX0_spread_X0_rowAt rfl rfl rfl kdX0_rowAt ⟨Nat.le_of_ble_eq_true rfl, Nat.le_of_ble_eq_true rfl⟩) (preRV hK hN hP 0 (ci := 0) rfl rfl rfl [0, 1] rfl) rfl rfl hl.1 rfl (lv_room (Nat.le_of_ble_eq_true rfl)) dX0_spread_36 ⟨Nat.zero_le _, Nat.zero_le _⟩) (fun H locs hP hS => ?_)
        refine lv_lor hx hb dX0_spread_39 ?_
        refine lv_lstore (lv' := [(5, .long (((((bu k) <<< ((1 : Int32).toInt64 &&& 63)) ||| (((bu k).toUInt64 >>> ((1 : Int32).toInt64.toUInt64 &&& Int64.toUInt64 63)).toInt64)) ||| (rowI bu ((nI k) - 1))) ||| (rowI bu (nI (k + 1))))), (3, .long (bu k)), (0, .ref bo), (1, .int (zb (moreA bu gd k = true))), (2, .int (nI k))]) hx hb dX0_spread_40 hl (by decide) rfl (fun ls hl => ?_)
        refine lv_aload_n hx hb dX0_spread_42 rfl (lv_at hl 2 rfl) ?_
        refine va_get (D := D) (ci := 0) (v := .ref af) (C := RX0) (T := TX0) (N := 9) hx hb hts hi_0 hown hK hP 0 rfl rfl 7 (by decide) hf_25 (fun _ h9 => h9) rfl dX0_spread_43 ?_
        refine lv_iload_n hx hb dX0_spread_46 rfl (lv_at hl 4 rfl) ?_
        refine lv_lload_n hx hb dX0_spread_47 rfl (lv_at hl 1 rfl) ?_
        refine lv_lload hx hb dX0_spread_48 (lv_at hl 0 rfl) ?_
        refine lv_aload_n hx hb dX0_spread_50 rfl (lv_at hl 2 rfl) ?_
        refine va_get (D := D) (ci := 0) (v := .ref ag) (C := RX0) (T := TX0) (N := 9) hx hb hts hi_0 hown hK hP 0 rfl rfl 8 (by decide) hf_28 (fun _ h9 => h9) rfl dX0_spread_51 ?_
        refine lv_iload_n hx hb dX0_spread_54 rfl (lv_at hl 4 rfl) ?_
        refine r_lald hx hb hK hP 3 rfl k rfl (by omega) (by omega) dX0_spread_55 ?_
        refine lv_ldc2 (v := (-1)) hx hb hown hc_79 dX0_spread_56 ?_
        refine lv_lxor hx hb dX0_spread_59 ?_
        refine lv_land hx hb dX0_spread_60 ?_
        refine lv_lor hx hb dX0_spread_61 ?_
        refine r_topl (x' := sprR bu gd k) rfl ?_
        refine r_last hx hb hK hP hD hS 2 rfl k rfl (by omega) (by omega) dX0_spread_62 (fun H locs hP hD hS => ?_)
        have hP : va_P D vwCl [(bo, .inr (0, [.int (nI sq), .int sh, .int lo, .ref ax, .ref ay, .ref az, .ref ab, .ref af, .ref ag])), (ab, .inl (cJ, 49, .inr (.inl bu))), (af, .inl (cJ, 49, .inr (.inl (vp_updL (aftA bu gd aq k) k (sprR bu gd k))))), (ag, .inl (cJ, 49, .inr (.inl gd)))] H := hP
        have hD : va_D A [(bo, .inr (0, [.int (nI sq), .int sh, .int lo, .ref ax, .ref ay, .ref az, .ref ab, .ref af, .ref ag])), (ab, .inl (cJ, 49, .inr (.inl bu))), (af, .inl (cJ, 49, .inr (.inl (vp_updL (aftA bu gd aq k) k (sprR bu gd k))))), (ag, .inl (cJ, 49, .inr (.inl gd)))] := hD
        refine lv_aload_n hx hb dX0_spread_63 rfl (lv_at hl 2 rfl) ?_
        refine va_get (D := D) (ci := 0) (v := .ref af) (C := RX0) (T := TX0) (N := 9) hx hb hts hi_0 hown hK hP 0 rfl rfl 7 (by decide) hf_25 (fun _ h9 => h9) rfl dX0_spread_64 ?_
        refine lv_iload_n hx hb dX0_spread_67 rfl (lv_at hl 4 rfl) ?_
        refine r_lald hx hb hK hP 2 rfl k rfl (by omega) (by omega) dX0_spread_68 ?_
        refine r_topl (x' := sprR bu gd k) pk_uLs ?_
        refine lv_lload_n hx hb dX0_spread_69 rfl (lv_at hl 1 rfl) ?_
        refine W.lcmp hx hb dX0_spread_70 ?_
        refine lv_if_eq (tgt := 76) hx hb dX0_spread_71 (by decide) (fun c_71 => ?_) (fun c_71 => ?_)
        · refine r_iinc (lv' := [(2, .int (nI (k + 1))), (5, .long (((((bu k) <<< ((1 : Int32).toInt64 &&& 63)) ||| (((bu k).toUInt64 >>> ((1 : Int32).toInt64.toUInt64 &&& Int64.toUInt64 63)).toInt64)) ||| (rowI bu ((nI k) - 1))) ||| (rowI bu (nI (k + 1))))), (3, .long (bu k)), (0, .ref bo), (1, .int (zb (moreA bu gd k = true)))]) hx hb 4 k dX0_spread_76 hl rfl (by decide) rfl (fun ls hl => ?_)
          refine lv_goto (tgt := 4) hx hb dX0_spread_79 (by decide) ?_
          exact ih_lp (k + 1) (by omega) (by omega) ls _ _ (by rw [moreA, if_pos c_71]; exact lv_sub hl [3, 4, 0] rfl) (by rw [aftA_S]; exact hP) (by rw [aftA_S]; exact hD) hS
        · refine lv_iconst (v := 1) hx hb dX0_spread_74 (by decide) ?_
          refine lv_istore_n (lv' := [(1, .int 1), (5, .long (((((bu k) <<< ((1 : Int32).toInt64 &&& 63)) ||| (((bu k).toUInt64 >>> ((1 : Int32).toInt64.toUInt64 &&& Int64.toUInt64 63)).toInt64)) ||| (rowI bu ((nI k) - 1))) ||| (rowI bu (nI (k + 1))))), (3, .long (bu k)), (0, .ref bo), (2, .int (nI k))]) hx hb dX0_spread_75 rfl hl (by decide) rfl (fun ls hl => ?_)
          refine r_iinc (lv' := [(2, .int (nI (k + 1))), (1, .int 1), (5, .long (((((bu k) <<< ((1 : Int32).toInt64 &&& 63)) ||| (((bu k).toUInt64 >>> ((1 : Int32).toInt64.toUInt64 &&& Int64.toUInt64 63)).toInt64)) ||| (rowI bu ((nI k) - 1))) ||| (rowI bu (nI (k + 1))))), (3, .long (bu k)), (0, .ref bo)]) hx hb 4 k dX0_spread_76 hl rfl (by decide) rfl (fun ls hl => ?_)
          refine lv_goto (tgt := 4) hx hb dX0_spread_79 (by decide) ?_
          exact ih_lp (k + 1) (by omega) (by omega) ls _ _ (by rw [moreA, if_neg c_71]; exact lv_sub hl [4, 1, 0] rfl) (by rw [aftA_S]; exact hP) (by rw [aftA_S]; exact hD) hS
  exact lp _ 0 (by omega) (Nat.lt_succ_self _) ls _ _ (lv_sub hl [2, 1, 0] rfl) (by rw [aftA_0]; exact hP) (by rw [aftA_0]; exact hD) hS
def rmX0_burn : Room := { frames := 3, cells := 0, slots := 0, locals := 86 }
theorem kdX0_burn : yX0_burn.cls = RX0 ∧ yX0_burn.cls ≠ "java/lang/invoke/MethodHandle" ∧ yX0_burn.cls ≠ "java/lang/invoke/VarHandle" ∧ (parseMethodDescriptor yX0_burn.desc).map (fun d => d.parameters.length) = some 0 := ⟨rfl, by decide +kernel, by decide +kernel, by decide +kernel⟩
set_option maxRecDepth 100000 in
set_option maxHeartbeats 1000000 in
theorem kX0_burn (l : Launch) (D : va_G) (cI cJ : ClassId) (bo ax ay az ab af ag sq : Nat) (wx wy wt : Row) (x : Bs) (y : Bs) (hsq : sq ≤ 40) (hy : y = brnL wx wy wt sq 24 1 (brn0 x.2.2.1 x.2.2.2.1 x.2.2.2.2)) : Met l yX0_burn wsX0_burn rmX0_burn (mPre D cI cJ [.ref bo] [(bo, .inr (0, [.int (nI sq), .int x.1, .int x.2.1, .ref ax, .ref ay, .ref az, .ref ab, .ref af, .ref ag])), (ax, .inl (cI, 40, .inl wx)), (ay, .inl (cI, 40, .inl wy)), (az, .inl (cI, 40, .inl wt)), (ab, .inl (cJ, 49, .inr (.inl x.2.2.1))), (af, .inl (cJ, 49, .inr (.inl x.2.2.2.1))), (ag, .inl (cJ, 49, .inr (.inl x.2.2.2.2)))]) (mQv D (fun (_ : Unit) => True) (fun (_ : Unit) => [(bo, .inr (0, [.int (nI sq), .int y.1, .int y.2.1, .ref ax, .ref ay, .ref az, .ref ab, .ref af, .ref ag])), (ax, .inl (cI, 40, .inl wx)), (ay, .inl (cI, 40, .inl wy)), (az, .inl (cI, 40, .inl wt)), (ab, .inl (cJ, 49, .inr (.inl y.2.2.1))), (af, .inl (cJ, 49, .inr (.inl y.2.2.2.1))), (ag, .inl (cJ, 49, .inr (.inl y.2.2.2.2)))]) [(bo, .inr (0, [.int (nI sq), .int x.1, .int x.2.1, .ref ax, .ref ay, .ref az, .ref ab, .ref af, .ref ag])), (ax, .inl (cI, 40, .inl wx)), (ay, .inl (cI, 40, .inl wy)), (az, .inl (cI, 40, .inl wt)), (ab, .inl (cJ, 49, .inr (.inl x.2.2.1))), (af, .inl (cJ, 49, .inr (.inl x.2.2.2.1))), (ag, .inl (cJ, 49, .inr (.inl x.2.2.2.2)))]) 0 0 (mA [(bo, .inr (0, [.int (nI sq), .int x.1, .int x.2.1, .ref ax, .ref ay, .ref az, .ref ab, .ref af, .ref ag])), (ax, .inl (cI, 40, .inl wx)), (ay, .inl (cI, 40, .inl wy)), (az, .inl (cI, 40, .inl wt)), (ab, .inl (cJ, 49, .inr (.inl x.2.2.1))), (af, .inl (cJ, 49, .inr (.inl x.2.2.2.1))), (ag, .inl (cJ, 49, .inr (.inl x.2.2.2.2)))]) := by
  refine startM (cc := cX0_burn) (maxL := 2) (ret := none) (by decide) rfl (Nat.le_of_ble_eq_true rfl) ?_
  intro p e s m args below meth c ls Q A hA hQ hx hb hr hlocks hml hown hts hK hN hP hD hl hin
  have hown : s.vm.findClass RX0 = some m.cls := hown
  have hi_0 : ∀ w ∈ wsX00, w ∈ wsX0_burn := by decide +kernel
  have hf_21 := hts (.fieldLink RX0 21 "FireNets$Board" "burning" "[J") (by decide +kernel)
  have hf_28 := hts (.fieldLink RX0 28 "FireNets$Board" "guarded" "[J") (by decide +kernel)
  have hf_49 := hts (.fieldLink RX0 49 "FireNets$Board" "shutIn" "I") (by decide +kernel)
  have hf_52 := hts (.fieldLink RX0 52 "FireNets$Board" "lost" "I") (by decide +kernel)
  have hc_47 := hts (.constantLong RX0 47 (16777216)) (by decide +kernel)
  have hS : va_S A s.heap s.heap [] := va_S.rf
  have hl : lv_has ls 2 [(0, .ref bo)] := hl
  have hP : va_P D vwCl [(bo, .inr (0, [.int (nI sq), .int x.1, .int x.2.1, .ref ax, .ref ay, .ref az, .ref ab, .ref af, .ref ag])), (ax, .inl (cI, 40, .inl wx)), (ay, .inl (cI, 40, .inl wy)), (az, .inl (cI, 40, .inl wt)), (ab, .inl (cJ, 49, .inr (.inl x.2.2.1))), (af, .inl (cJ, 49, .inr (.inl x.2.2.2.1))), (ag, .inl (cJ, 49, .inr (.inl x.2.2.2.2)))] s.heap := hP
  subst hy
  refine lv_aload_n hx hb dX0_burn_0 rfl (lv_at hl 0 rfl) ?_
  refine va_get (D := D) (ci := 0) (v := .ref ab) (C := RX0) (T := TX0) (N := 9) hx hb hts hi_0 hown hK hP 0 rfl rfl 6 (by decide) hf_21 (fun _ h9 => h9) rfl dX0_burn_1 ?_
  refine lv_lconst (v := 0) hx hb dX0_burn_4 (by decide) ?_
  refine goMV hP hD hS (va_runS (As := [.ref ab, .long 0]) (rest := []) ⟨hx, hb, hml, hown, hts⟩ (kJ7_fill_d0a16 l D cI cJ ab 49 x.2.2.1 0 (by omega)) (va_cwS 2 hts gX0_burn_J7_fill_d0a16 rfl rfl rfl kdJ7_fill_d0a16.2 ⟨Nat.le_of_ble_eq_true rfl, Nat.le_of_ble_eq_true rfl⟩) (preM hK hN hP hD [4] rfl (by decide)) rfl rfl hl.1 rfl (lv_room (Nat.le_of_ble_eq_true rfl)) dX0_burn_5 ⟨Nat.zero_le _, Nat.zero_le _⟩) [4] rfl (by decide) (fun _ => (show ([ab] : List Nat) = [ab] from rfl)) (fun _ H locs hp_5 hP hD hS => ?_)
  have hP : va_P D vwCl [(bo, .inr (0, [.int (nI sq), .int x.1, .int x.2.1, .ref ax, .ref ay, .ref az, .ref ab, .ref af, .ref ag])), (ax, .inl (cI, 40, .inl wx)), (ay, .inl (cI, 40, .inl wy)), (az, .inl (cI, 40, .inl wt)), (ab, .inl (cJ, 49, .inr (.inl (fillF x.2.2.1 0 49)))), (af, .inl (cJ, 49, .inr (.inl x.2.2.2.1))), (ag, .inl (cJ, 49, .inr (.inl x.2.2.2.2)))] H := hP
  have hD : va_D A [(bo, .inr (0, [.int (nI sq), .int x.1, .int x.2.1, .ref ax, .ref ay, .ref az, .ref ab, .ref af, .ref ag])), (ax, .inl (cI, 40, .inl wx)), (ay, .inl (cI, 40, .inl wy)), (az, .inl (cI, 40, .inl wt)), (ab, .inl (cJ, 49, .inr (.inl (fillF x.2.2.1 0 49)))), (af, .inl (cJ, 49, .inr (.inl x.2.2.2.1))), (ag, .inl (cJ, 49, .inr (.inl x.2.2.2.2)))] := hD
  refine lv_aload_n hx hb dX0_burn_8 rfl (lv_at hl 0 rfl) ?_
  refine va_get (D := D) (ci := 0) (v := .ref ag) (C := RX0) (T := TX0) (N := 9) hx hb hts hi_0 hown hK hP 0 rfl rfl 8 (by decide) hf_28 (fun _ h9 => h9) rfl dX0_burn_9 ?_
  refine lv_lconst (v := 0) hx hb dX0_burn_12 (by decide) ?_
  refine goMV hP hD hS (va_runS (As := [.ref ag, .long 0]) (rest := []) ⟨hx, hb, hml, hown, hts⟩ (kJ7_fill_d0a16 l D cI cJ ag 49 x.2.2.2.2 0 (by omega)) (va_cwS 2 hts gX0_burn_J7_fill_d0a16 rfl rfl rfl kdJ7_fill_d0a16.2 ⟨Nat.le_of_ble_eq_true rfl, Nat.le_of_ble_eq_true rfl⟩) (preM hK hN hP hD [6] rfl (by decide)) rfl rfl hl.1 rfl (lv_room (Nat.le_of_ble_eq_true rfl)) dX0_burn_13 ⟨Nat.zero_le _, Nat.zero_le _⟩) [6] rfl (by decide) (fun _ => (show ([ag] : List Nat) = [ag] from rfl)) (fun _ H locs hp_13 hP hD hS => ?_)
  have hP : va_P D vwCl [(bo, .inr (0, [.int (nI sq), .int x.1, .int x.2.1, .ref ax, .ref ay, .ref az, .ref ab, .ref af, .ref ag])), (ax, .inl (cI, 40, .inl wx)), (ay, .inl (cI, 40, .inl wy)), (az, .inl (cI, 40, .inl wt)), (ab, .inl (cJ, 49, .inr (.inl (fillF x.2.2.1 0 49)))), (af, .inl (cJ, 49, .inr (.inl x.2.2.2.1))), (ag, .inl (cJ, 49, .inr (.inl (fillF x.2.2.2.2 0 49))))] H := hP
  have hD : va_D A [(bo, .inr (0, [.int (nI sq), .int x.1, .int x.2.1, .ref ax, .ref ay, .ref az, .ref ab, .ref af, .ref ag])), (ax, .inl (cI, 40, .inl wx)), (ay, .inl (cI, 40, .inl wy)), (az, .inl (cI, 40, .inl wt)), (ab, .inl (cJ, 49, .inr (.inl (fillF x.2.2.1 0 49)))), (af, .inl (cJ, 49, .inr (.inl x.2.2.2.1))), (ag, .inl (cJ, 49, .inr (.inl (fillF x.2.2.2.2 0 49))))] := hD
  refine lv_aload_n hx hb dX0_burn_16 rfl (lv_at hl 0 rfl) ?_
  refine va_get (D := D) (ci := 0) (v := .ref ab) (C := RX0) (T := TX0) (N := 9) hx hb hts hi_0 hown hK hP 0 rfl rfl 6 (by decide) hf_21 (fun _ h9 => h9) rfl dX0_burn_17 ?_
  refine lv_bipush (v := 24) hx hb dX0_burn_20 (by decide) ?_
  refine lv_ldc2 (v := 16777216) hx hb hown hc_47 dX0_burn_22 ?_
  refine r_last hx hb hK hP hD hS 4 rfl 24 rfl (by omega) (by omega) dX0_burn_25 (fun H locs hP hD hS => ?_)
  have hP : va_P D vwCl [(bo, .inr (0, [.int (nI sq), .int x.1, .int x.2.1, .ref ax, .ref ay, .ref az, .ref ab, .ref af, .ref ag])), (ax, .inl (cI, 40, .inl wx)), (ay, .inl (cI, 40, .inl wy)), (az, .inl (cI, 40, .inl wt)), (ab, .inl (cJ, 49, .inr (.inl (vp_updL (fillF x.2.2.1 0 49) 24 16777216)))), (af, .inl (cJ, 49, .inr (.inl x.2.2.2.1))), (ag, .inl (cJ, 49, .inr (.inl (fillF x.2.2.2.2 0 49))))] H := hP
  have hD : va_D A [(bo, .inr (0, [.int (nI sq), .int x.1, .int x.2.1, .ref ax, .ref ay, .ref az, .ref ab, .ref af, .ref ag])), (ax, .inl (cI, 40, .inl wx)), (ay, .inl (cI, 40, .inl wy)), (az, .inl (cI, 40, .inl wt)), (ab, .inl (cJ, 49, .inr (.inl (vp_updL (fillF x.2.2.1 0 49) 24 16777216)))), (af, .inl (cJ, 49, .inr (.inl x.2.2.2.1))), (ag, .inl (cJ, 49, .inr (.inl (fillF x.2.2.2.2 0 49))))] := hD
  refine lv_aload_n hx hb dX0_burn_26 rfl (lv_at hl 0 rfl) ?_
  refine lv_iconst (v := (-1)) hx hb dX0_burn_27 (by decide) ?_
  refine va_put (D := D) (ci := 0) (v := .int (-1)) (ty := .int) (C := RX0) (T := TX0) (N := 9) hx hb hts hi_0 tyX0 tyX0_ok nmX0 hown hK hP hD hS 0 rfl rfl 1 (by decide) hf_49 (fun _ h9 => h9) rfl (by decide +kernel) rfl rfl (Nat.le_of_ble_eq_true rfl) dX0_burn_28 (fun H locs hP hD hS => ?_)
  have hP : va_P D vwCl [(bo, .inr (0, [.int (nI sq), .int (-1), .int x.2.1, .ref ax, .ref ay, .ref az, .ref ab, .ref af, .ref ag])), (ax, .inl (cI, 40, .inl wx)), (ay, .inl (cI, 40, .inl wy)), (az, .inl (cI, 40, .inl wt)), (ab, .inl (cJ, 49, .inr (.inl (vp_updL (fillF x.2.2.1 0 49) 24 16777216)))), (af, .inl (cJ, 49, .inr (.inl x.2.2.2.1))), (ag, .inl (cJ, 49, .inr (.inl (fillF x.2.2.2.2 0 49))))] H := hP
  have hD : va_D A [(bo, .inr (0, [.int (nI sq), .int (-1), .int x.2.1, .ref ax, .ref ay, .ref az, .ref ab, .ref af, .ref ag])), (ax, .inl (cI, 40, .inl wx)), (ay, .inl (cI, 40, .inl wy)), (az, .inl (cI, 40, .inl wt)), (ab, .inl (cJ, 49, .inr (.inl (vp_updL (fillF x.2.2.1 0 49) 24 16777216)))), (af, .inl (cJ, 49, .inr (.inl x.2.2.2.1))), (ag, .inl (cJ, 49, .inr (.inl (fillF x.2.2.2.2 0 49))))] := hD
  refine lv_aload_n hx hb dX0_burn_31 rfl (lv_at hl 0 rfl) ?_
  refine lv_iconst (v := 0) hx hb dX0_burn_32 (by decide) ?_
  refine va_put (D := D) (ci := 0) (v := .int 0) (ty := .int) (C := RX0) (T := TX0) (N := 9) hx hb hts hi_0 tyX0 tyX0_ok nmX0 hown hK hP hD hS 0 rfl rfl 2 (by decide) hf_52 (fun _ h9 => h9) rfl (by decide +kernel) rfl rfl (Nat.le_of_ble_eq_true rfl) dX0_burn_33 (fun H locs hP hD hS => ?_)
  have hP : va_P D vwCl [(bo, .inr (0, [.int (nI sq), .int (-1), .int 0, .ref ax, .ref ay, .ref az, .ref ab, .ref af, .ref ag])), (ax, .inl (cI, 40, .inl wx)), (ay, .inl (cI, 40, .inl wy)), (az, .inl (cI, 40, .inl wt)), (ab, .inl (cJ, 49, .inr (.inl (vp_updL (fillF x.2.2.1 0 49) 24 16777216)))), (af, .inl (cJ, 49, .inr (.inl x.2.2.2.1))), (ag, .inl (cJ, 49, .inr (.inl (fillF x.2.2.2.2 0 49))))] H := hP
  have hD : va_D A [(bo, .inr (0, [.int (nI sq), .int (-1), .int 0, .ref ax, .ref ay, .ref az, .ref ab, .ref af, .ref ag])), (ax, .inl (cI, 40, .inl wx)), (ay, .inl (cI, 40, .inl wy)), (az, .inl (cI, 40, .inl wt)), (ab, .inl (cJ, 49, .inr (.inl (vp_updL (fillF x.2.2.1 0 49) 24 16777216)))), (af, .inl (cJ, 49, .inr (.inl x.2.2.2.1))), (ag, .inl (cJ, 49, .inr (.inl (fillF x.2.2.2.2 0 49))))] := hD
  refine lv_iconst (v := 1) hx hb dX0_burn_36 (by decide) ?_
  refine lv_istore_n (lv' := [(1, .int 1), (0, .ref bo)]) hx hb dX0_burn_37 rfl hl (by decide) rfl (fun ls hl => ?_)
  have lp : ∀ (fu : Nat) (t : Nat) (q : Bs), (1 ≤ t) → (t ≤ 25) → (brnL wx wy wt sq (25 - t) t q = brnL wx wy wt sq 24 1 (brn0 x.2.2.1 x.2.2.2.1 x.2.2.2.2)) → 25 - t < fu → ∀ (ls : Array Slot) (H : Heap) (locs : List Loc), lv_has ls 2 [(0, .ref bo), (1, .int (nI t))] → va_P D vwCl [(bo, .inr (0, [.int (nI sq), .int q.1, .int q.2.1, .ref ax, .ref ay, .ref az, .ref ab, .ref af, .ref ag])), (ax, .inl (cI, 40, .inl wx)), (ay, .inl (cI, 40, .inl wy)), (az, .inl (cI, 40, .inl wt)), (ab, .inl (cJ, 49, .inr (.inl q.2.2.1))), (af, .inl (cJ, 49, .inr (.inl q.2.2.2.1))), (ag, .inl (cJ, 49, .inr (.inl q.2.2.2.2)))] H → va_D A [(bo, .inr (0, [.int (nI sq), .int q.1, .int q.2.1, .ref ax, .ref ay, .ref az, .ref ab, .ref af, .ref ag])), (ax, .inl (cI, 40, .inl wx)), (ay, .inl (cI, 40, .inl wy)), (az, .inl (cI, 40, .inl wt)), (ab, .inl (cJ, 49, .inr (.inl q.2.2.1))), (af, .inl (cJ, 49, .inr (.inl q.2.2.2.1))), (ag, .inl (cJ, 49, .inr (.inl q.2.2.2.2)))] → va_S A s.heap H locs → W p l e rmX0_burn s m args below meth c H locs 0 0 Q (F0 m 38 ls []) := by
    intro fu
    induction fu with
    | zero => intro t q h1 h2 hq hf; exact absurd hf (Nat.not_lt_zero _)
    | succ fu ih_lp =>
      intro t q h1 h2 hq hf ls H locs hl hP hD hS
      refine lv_iload_n hx hb dX0_burn_38 rfl (lv_at hl 1 rfl) ?_
      refine lv_bipush (v := 24) hx hb dX0_burn_39 (by decide) ?_
      refine r_icmp_gt (tgt := 75) hx hb t 24 dX0_burn_41 (by decide) rfl rfl (by omega) (by omega) (fun c_41 => ?_) (fun c_41 => ?_)
      · exact endMV () hx hb hr hlocks hA hQ hS hP dX0_burn_75 (by rw [← hq, show 25 - t = 0 by omega, brnL]) trivial
      · refine lv_aload_n hx hb dX0_burn_44 rfl (lv_at hl 0 rfl) ?_
        refine va_get (D := D) (ci := 0) (v := .int q.1) (C := RX0) (T := TX0) (N := 9) hx hb hts hi_0 hown hK hP 0 rfl rfl 1 (by decide) hf_49 (fun _ h9 => h9) rfl dX0_burn_45 ?_
        refine lv_iconst (v := (-1)) hx hb dX0_burn_48 (by decide) ?_
        refine lv_icmp_ne (tgt := 75) hx hb dX0_burn_49 (by decide) (fun c_49 => ?_) (fun c_49 => ?_)
        · exact endMV () hx hb hr hlocks hA hQ hS hP dX0_burn_75 (by rw [← hq, show 25 - t = (24 - t) + 1 by omega, brnL, if_neg c_49]) trivial
        · refine lv_aload_n hx hb dX0_burn_52 rfl (lv_at hl 0 rfl) ?_
          refine lv_iload_n hx hb dX0_burn_53 rfl (lv_at hl 1 rfl) ?_
          refine goMV hP hD hS (va_runV (As := [.int (nI t)]) (rest := []) ⟨hx, hb, hml, hown, hts⟩ (kX0_putGuards l D cI cJ bo ax ay az ab af ag sq q.1 q.2.1 wx wy wt q.2.2.1 q.2.2.2.2 (nI t) (by omega)) (cwV 1 hts gX0_burn_X0_putGuards rfl rfl rfl kdX0_putGuards ⟨Nat.le_of_ble_eq_true rfl, Nat.le_of_ble_eq_true rfl⟩) (preMV hK hN hP hD 0 (ci := 0) rfl rfl rfl [0, 1, 2, 3, 4, 6] rfl (by decide)) rfl rfl hl.1 rfl (lv_room (Nat.le_of_ble_eq_true rfl)) dX0_burn_54 ⟨Nat.zero_le _, Nat.zero_le _⟩) [0, 1, 2, 3, 4, 6] rfl (by decide) (fun _ => (show ([bo, ax, ay, az, ab, ag] : List Nat) = [bo, ax, ay, az, ab, ag] from rfl)) (fun _ H locs hp_54 hP hD hS => ?_)
          have hP : va_P D vwCl [(bo, .inr (0, [.int (nI sq), .int q.1, .int ((pgA q.2.2.1 wx wy wt (nI t) (q.2.1, q.2.2.2.2) sq).1), .ref ax, .ref ay, .ref az, .ref ab, .ref af, .ref ag])), (ax, .inl (cI, 40, .inl wx)), (ay, .inl (cI, 40, .inl wy)), (az, .inl (cI, 40, .inl wt)), (ab, .inl (cJ, 49, .inr (.inl q.2.2.1))), (af, .inl (cJ, 49, .inr (.inl q.2.2.2.1))), (ag, .inl (cJ, 49, .inr (.inl ((pgA q.2.2.1 wx wy wt (nI t) (q.2.1, q.2.2.2.2) sq).2))))] H := hP
          have hD : va_D A [(bo, .inr (0, [.int (nI sq), .int q.1, .int ((pgA q.2.2.1 wx wy wt (nI t) (q.2.1, q.2.2.2.2) sq).1), .ref ax, .ref ay, .ref az, .ref ab, .ref af, .ref ag])), (ax, .inl (cI, 40, .inl wx)), (ay, .inl (cI, 40, .inl wy)), (az, .inl (cI, 40, .inl wt)), (ab, .inl (cJ, 49, .inr (.inl q.2.2.1))), (af, .inl (cJ, 49, .inr (.inl q.2.2.2.1))), (ag, .inl (cJ, 49, .inr (.inl ((pgA q.2.2.1 wx wy wt (nI t) (q.2.1, q.2.2.2.2) sq).2))))] := hD
          refine lv_aload_n hx hb dX0_burn_57 rfl (lv_at hl 0 rfl) ?_
          refine goMI hP hD hS (va_runV (As := []) (rest := []) ⟨hx, hb, hml, hown, hts⟩ (kX0_spread l D cI cJ bo ax ay az ab af ag sq q.1 ((pgA q.2.2.1 wx wy wt (nI t) (q.2.1, q.2.2.2.2) sq).1) q.2.2.1 q.2.2.2.1 ((pgA q.2.2.1 wx wy wt (nI t) (q.2.1, q.2.2.2.2) sq).2)) (cwV 0 hts gX0_burn_X0_spread rfl rfl rfl kdX0_spread ⟨Nat.le_of_ble_eq_true rfl, Nat.le_of_ble_eq_true rfl⟩) (preMV hK hN hP hD 0 (ci := 0) rfl rfl rfl [0, 4, 5, 6] rfl (by decide)) rfl rfl hl.1 rfl (lv_room (Nat.le_of_ble_eq_true rfl)) dX0_burn_58 ⟨Nat.zero_le _, Nat.zero_le _⟩) [0, 4, 5, 6] rfl (by decide) (fun _ => (show ([bo, ab, af, ag] : List Nat) = [bo, ab, af, ag] from rfl)) (fun r_58 _ H locs hp_58 hP hD hS => ?_)
          have hP : va_P D vwCl [(bo, .inr (0, [.int (nI sq), .int q.1, .int ((pgA q.2.2.1 wx wy wt (nI t) (q.2.1, q.2.2.2.2) sq).1), .ref ax, .ref ay, .ref az, .ref ab, .ref af, .ref ag])), (ax, .inl (cI, 40, .inl wx)), (ay, .inl (cI, 40, .inl wy)), (az, .inl (cI, 40, .inl wt)), (ab, .inl (cJ, 49, .inr (.inl (va_cpy (aftA q.2.2.1 ((pgA q.2.2.1 wx wy wt (nI t) (q.2.1, q.2.2.2.2) sq).2) q.2.2.2.1 49) q.2.2.1 0 0 49)))), (af, .inl (cJ, 49, .inr (.inl (aftA q.2.2.1 ((pgA q.2.2.1 wx wy wt (nI t) (q.2.1, q.2.2.2.2) sq).2) q.2.2.2.1 49)))), (ag, .inl (cJ, 49, .inr (.inl ((pgA q.2.2.1 wx wy wt (nI t) (q.2.1, q.2.2.2.2) sq).2))))] H := hP
          have hD : va_D A [(bo, .inr (0, [.int (nI sq), .int q.1, .int ((pgA q.2.2.1 wx wy wt (nI t) (q.2.1, q.2.2.2.2) sq).1), .ref ax, .ref ay, .ref az, .ref ab, .ref af, .ref ag])), (ax, .inl (cI, 40, .inl wx)), (ay, .inl (cI, 40, .inl wy)), (az, .inl (cI, 40, .inl wt)), (ab, .inl (cJ, 49, .inr (.inl (va_cpy (aftA q.2.2.1 ((pgA q.2.2.1 wx wy wt (nI t) (q.2.1, q.2.2.2.2) sq).2) q.2.2.2.1 49) q.2.2.1 0 0 49)))), (af, .inl (cJ, 49, .inr (.inl (aftA q.2.2.1 ((pgA q.2.2.1 wx wy wt (nI t) (q.2.1, q.2.2.2.2) sq).2) q.2.2.2.1 49)))), (ag, .inl (cJ, 49, .inr (.inl ((pgA q.2.2.1 wx wy wt (nI t) (q.2.1, q.2.2.2.2) sq).2))))] := hD
          obtain rfl := hp_58
          refine r_zne (tgt := 69) hx hb dX0_burn_61 (by decide) (fun c_61 => ?_) (fun c_61 => ?_)
          · refine r_iinc (lv' := [(1, .int (nI (t + 1))), (0, .ref bo)]) hx hb 1 t dX0_burn_69 hl rfl (by decide) rfl (fun ls hl => ?_)
            refine lv_goto (tgt := 38) hx hb dX0_burn_72 (by decide) ?_
            exact ih_lp (t + 1) (q.1, (pgA q.2.2.1 wx wy wt (nI t) (q.2.1, q.2.2.2.2) sq).1, va_cpy (aftA q.2.2.1 ((pgA q.2.2.1 wx wy wt (nI t) (q.2.1, q.2.2.2.2) sq).2) q.2.2.2.1 49) q.2.2.1 0 0 49, aftA q.2.2.1 ((pgA q.2.2.1 wx wy wt (nI t) (q.2.1, q.2.2.2.2) sq).2) q.2.2.2.1 49, (pgA q.2.2.1 wx wy wt (nI t) (q.2.1, q.2.2.2.2) sq).2) (by omega) (by omega) (by rw [← hq, show 25 - t = (25 - (t + 1)) + 1 by omega, brnL, if_pos c_49, brnS, pgB, if_pos c_61] <;> rfl) (by omega) ls _ _ (lv_sub hl [1, 0] rfl) hP hD hS
          · refine lv_aload_n hx hb dX0_burn_64 rfl (lv_at hl 0 rfl) ?_
            refine lv_iload_n hx hb dX0_burn_65 rfl (lv_at hl 1 rfl) ?_
            refine va_put (D := D) (ci := 0) (v := .int (nI t)) (ty := .int) (C := RX0) (T := TX0) (N := 9) hx hb hts hi_0 tyX0 tyX0_ok nmX0 hown hK hP hD hS 0 rfl rfl 1 (by decide) hf_49 (fun _ h9 => h9) rfl (by decide +kernel) rfl rfl (Nat.le_of_ble_eq_true rfl) dX0_burn_66 (fun H locs hP hD hS => ?_)
            have hP : va_P D vwCl [(bo, .inr (0, [.int (nI sq), .int (nI t), .int ((pgA q.2.2.1 wx wy wt (nI t) (q.2.1, q.2.2.2.2) sq).1), .ref ax, .ref ay, .ref az, .ref ab, .ref af, .ref ag])), (ax, .inl (cI, 40, .inl wx)), (ay, .inl (cI, 40, .inl wy)), (az, .inl (cI, 40, .inl wt)), (ab, .inl (cJ, 49, .inr (.inl (va_cpy (aftA q.2.2.1 ((pgA q.2.2.1 wx wy wt (nI t) (q.2.1, q.2.2.2.2) sq).2) q.2.2.2.1 49) q.2.2.1 0 0 49)))), (af, .inl (cJ, 49, .inr (.inl (aftA q.2.2.1 ((pgA q.2.2.1 wx wy wt (nI t) (q.2.1, q.2.2.2.2) sq).2) q.2.2.2.1 49)))), (ag, .inl (cJ, 49, .inr (.inl ((pgA q.2.2.1 wx wy wt (nI t) (q.2.1, q.2.2.2.2) sq).2))))] H := hP
            have hD : va_D A [(bo, .inr (0, [.int (nI sq), .int (nI t), .int ((pgA q.2.2.1 wx wy wt (nI t) (q.2.1, q.2.2.2.2) sq).1), .ref ax, .ref ay, .ref az, .ref ab, .ref af, .ref ag])), (ax, .inl (cI, 40, .inl wx)), (ay, .inl (cI, 40, .inl wy)), (az, .inl (cI, 40, .inl wt)), (ab, .inl (cJ, 49, .inr (.inl (va_cpy (aftA q.2.2.1 ((pgA q.2.2.1 wx wy wt (nI t) (q.2.1, q.2.2.2.2) sq).2) q.2.2.2.1 49) q.2.2.1 0 0 49)))), (af, .inl (cJ, 49, .inr (.inl (aftA q.2.2.1 ((pgA q.2.2.1 wx wy wt (nI t) (q.2.1, q.2.2.2.2) sq).2) q.2.2.2.1 49)))), (ag, .inl (cJ, 49, .inr (.inl ((pgA q.2.2.1 wx wy wt (nI t) (q.2.1, q.2.2.2.2) sq).2))))] := hD
            refine r_iinc (lv' := [(1, .int (nI (t + 1))), (0, .ref bo)]) hx hb 1 t dX0_burn_69 hl rfl (by decide) rfl (fun ls hl => ?_)
            refine lv_goto (tgt := 38) hx hb dX0_burn_72 (by decide) ?_
            exact ih_lp (t + 1) (nI t, (pgA q.2.2.1 wx wy wt (nI t) (q.2.1, q.2.2.2.2) sq).1, va_cpy (aftA q.2.2.1 ((pgA q.2.2.1 wx wy wt (nI t) (q.2.1, q.2.2.2.2) sq).2) q.2.2.2.1 49) q.2.2.1 0 0 49, aftA q.2.2.1 ((pgA q.2.2.1 wx wy wt (nI t) (q.2.1, q.2.2.2.2) sq).2) q.2.2.2.1 49, (pgA q.2.2.1 wx wy wt (nI t) (q.2.1, q.2.2.2.2) sq).2) (by omega) (by omega) (by rw [← hq, show 25 - t = (25 - (t + 1)) + 1 by omega, brnL, if_pos c_49, brnS, pgB, if_neg c_61] <;> rfl) (by omega) ls _ _ (lv_sub hl [1, 0] rfl) hP hD hS
  exact lp _ 1 (-1, 0, vp_updL (fillF x.2.2.1 0 49) 24 16777216, x.2.2.2.1, fillF x.2.2.2.2 0 49) (by omega) (by omega) (brn_eq rfl) (Nat.lt_succ_self _) ls _ _ (lv_sub hl [1, 0] rfl) hP hD hS
def rmX0_burnt : Room := { frames := 1, cells := 0, slots := 0, locals := 21 }
theorem kdX0_burnt : yX0_burnt.cls = RX0 ∧ yX0_burnt.cls ≠ "java/lang/invoke/MethodHandle" ∧ yX0_burnt.cls ≠ "java/lang/invoke/VarHandle" ∧ (parseMethodDescriptor yX0_burnt.desc).map (fun d => d.parameters.length) = some 0 := ⟨rfl, by decide +kernel, by decide +kernel, by decide +kernel⟩
set_option maxRecDepth 100000 in
set_option maxHeartbeats 1000000 in
theorem kX0_burnt (l : Launch) (D : va_G) (cI cJ : ClassId) (bo ax ay az ab af ag sq : Nat) (sh lo : Int32) (bu : RowL)  : Met l yX0_burnt wsX0_burnt rmX0_burnt (rPre D cI cJ [.ref bo] [(bo, .inr (0, [.int (nI sq), .int sh, .int lo, .ref ax, .ref ay, .ref az, .ref ab, .ref af, .ref ag])), (ab, .inl (cJ, 49, .inr (.inl bu)))]) (qRI (brtA bu 49)) 0 0 nA := by
  refine startR (cc := cX0_burnt) (maxL := 3) (ret := (some .int)) (by decide) rfl (Nat.le_of_ble_eq_true rfl) ?_
  intro p e s m args below meth c ls Q hQ hx hb hr hlocks hml hown hts hK hN hP hl hin
  have hown : s.vm.findClass RX0 = some m.cls := hown
  have hi_0 : ∀ w ∈ wsX00, w ∈ wsX0_burnt := by decide +kernel
  have hf_21 := hts (.fieldLink RX0 21 "FireNets$Board" "burning" "[J") (by decide +kernel)
  have hS : va_S nA s.heap s.heap [] := va_S.rf
  have hl : lv_has ls 3 [(0, .ref bo)] := hl
  have hP : va_P D vwCl [(bo, .inr (0, [.int (nI sq), .int sh, .int lo, .ref ax, .ref ay, .ref az, .ref ab, .ref af, .ref ag])), (ab, .inl (cJ, 49, .inr (.inl bu)))] s.heap := hP
  refine lv_iconst (v := 0) hx hb dX0_burnt_0 (by decide) ?_
  refine lv_istore_n (lv' := [(1, .int 0), (0, .ref bo)]) hx hb dX0_burnt_1 rfl hl (by decide) rfl (fun ls hl => ?_)
  refine lv_iconst (v := 0) hx hb dX0_burnt_2 (by decide) ?_
  refine lv_istore_n (lv' := [(2, .int 0), (1, .int 0), (0, .ref bo)]) hx hb dX0_burnt_3 rfl hl (by decide) rfl (fun ls hl => ?_)
  have lp : ∀ (fu : Nat) (k : Nat), (k ≤ 49) → 49 - k < fu → ∀ (ls : Array Slot) (H : Heap) (locs : List Loc), lv_has ls 3 [(0, .ref bo), (1, .int (brtA bu k)), (2, .int (nI k))] → va_P D vwCl [(bo, .inr (0, [.int (nI sq), .int sh, .int lo, .ref ax, .ref ay, .ref az, .ref ab, .ref af, .ref ag])), (ab, .inl (cJ, 49, .inr (.inl bu)))] H → va_S nA s.heap H locs → W p l e rmX0_burnt s m args below meth c H locs 0 0 Q (F0 m 4 ls []) := by
    intro fu
    induction fu with
    | zero => intro k hk hf; exact absurd hf (Nat.not_lt_zero _)
    | succ fu ih_lp =>
      intro k hk hf ls H locs hl hP hS
      refine lv_iload_n hx hb dX0_burnt_4 rfl (lv_at hl 2 rfl) ?_
      refine lv_bipush (v := 49) hx hb dX0_burnt_5 (by decide) ?_
      refine r_icmp_ge (tgt := 28) hx hb k 49 dX0_burnt_7 (by decide) rfl rfl (by omega) (by omega) (fun c_7 => ?_) (fun c_7 => ?_)
      · refine lv_iload_n hx hb dX0_burnt_28 rfl (lv_at hl 1 rfl) ?_
        exact endRI hx hb hr hlocks hQ hS dX0_burnt_29 (by rw [show k = 49 by omega])
      · refine lv_iload_n hx hb dX0_burnt_10 rfl (lv_at hl 1 rfl) ?_
        refine lv_aload_n hx hb dX0_burnt_11 rfl (lv_at hl 0 rfl) ?_
        refine va_get (D := D) (ci := 0) (v := .ref ab) (C := RX0) (T := TX0) (N := 9) hx hb hts hi_0 hown hK hP 0 rfl rfl 6 (by decide) hf_21 (fun _ h9 => h9) rfl dX0_burnt_12 ?_
        refine lv_iload_n hx hb dX0_burnt_15 rfl (lv_at hl 2 rfl) ?_
        refine r_lald hx hb hK hP 1 rfl k rfl (by omega) (by omega) dX0_burnt_16 ?_
        refine goRI hP hS (va_runS (As := [.long (bu k)]) (rest := [.int (brtA bu k)]) ⟨hx, hb, hml, hown, hts⟩ (kJ13_bitCount_95d88 l D cI cJ (bu k)) (va_cwS 1 hts gX0_burnt_J13_bitCount_95d88 rfl rfl rfl kdJ13_bitCount_95d88.2 ⟨Nat.le_of_ble_eq_true rfl, Nat.le_of_ble_eq_true rfl⟩) (preR hK hN hP [] rfl) rfl rfl hl.1 rfl (lv_room (Nat.le_of_ble_eq_true rfl)) dX0_burnt_17 ⟨Nat.zero_le _, Nat.zero_le _⟩) (fun H locs hP hS => ?_)
        refine lv_iadd hx hb dX0_burnt_20 ?_
        refine lv_istore_n (lv' := [(1, .int ((brtA bu k) + (popL (bu k)))), (0, .ref bo), (2, .int (nI k))]) hx hb dX0_burnt_21 rfl hl (by decide) rfl (fun ls hl => ?_)
        refine r_iinc (lv' := [(2, .int (nI (k + 1))), (1, .int ((brtA bu k) + (popL (bu k)))), (0, .ref bo)]) hx hb 2 k dX0_burnt_22 hl rfl (by decide) rfl (fun ls hl => ?_)
        refine lv_goto (tgt := 4) hx hb dX0_burnt_25 (by decide) ?_
        exact ih_lp (k + 1) (by omega) (by omega) ls _ _ (lv_sub hl [2, 1, 0] rfl) hP hS
  exact lp _ 0 (by omega) (Nat.lt_succ_self _) ls _ _ (lv_sub hl [2, 1, 0] rfl) hP hS
def rmX0_reach : Room := { frames := 1, cells := 0, slots := 0, locals := 30 }
theorem kdX0_reach : yX0_reach.cls = RX0 ∧ yX0_reach.cls ≠ "java/lang/invoke/MethodHandle" ∧ yX0_reach.cls ≠ "java/lang/invoke/VarHandle" ∧ (parseMethodDescriptor yX0_reach.desc).map (fun d => d.parameters.length) = some 0 := ⟨rfl, by decide +kernel, by decide +kernel, by decide +kernel⟩
set_option maxRecDepth 100000 in
set_option maxHeartbeats 1000000 in
theorem kX0_reach (l : Launch) (D : va_G) (cI cJ : ClassId) (bo ax ay az ab af ag sq : Nat) (sh lo : Int32) (bu : RowL)  : Met l yX0_reach wsX0_reach rmX0_reach (rPre D cI cJ [.ref bo] [(bo, .inr (0, [.int (nI sq), .int sh, .int lo, .ref ax, .ref ay, .ref az, .ref ab, .ref af, .ref ag])), (ab, .inl (cJ, 49, .inr (.inl bu)))]) (qRI (rchA bu 49)) 0 0 nA := by
  refine startR (cc := cX0_reach) (maxL := 4) (ret := (some .int)) (by decide) rfl (Nat.le_of_ble_eq_true rfl) ?_
  intro p e s m args below meth c ls Q hQ hx hb hr hlocks hml hown hts hK hN hP hl hin
  have hown : s.vm.findClass RX0 = some m.cls := hown
  have hi_0 : ∀ w ∈ wsX00, w ∈ wsX0_reach := by decide +kernel
  have hf_21 := hts (.fieldLink RX0 21 "FireNets$Board" "burning" "[J") (by decide +kernel)
  have hm0_abs := hts (.methodLink RX0 93 Lib.Math.abs.name) (by decide +kernel)
  have hm1_abs := hts (.static Lib.Math.abs.name) (by decide +kernel)
  have hm2_abs := hts (.initialized "java/lang/Math") (by decide +kernel)
  have hm3_abs := hts (.code Lib.Math.abs.name Lib.Math.abs.code 1 (some .int)) (by decide +kernel)
  have hm0_max := hts (.methodLink RX0 35 Lib.Math.max.name) (by decide +kernel)
  have hm1_max := hts (.static Lib.Math.max.name) (by decide +kernel)
  have hm2_max := hts (.initialized "java/lang/Math") (by decide +kernel)
  have hm3_max := hts (.code Lib.Math.max.name Lib.Math.max.code 2 (some .int)) (by decide +kernel)
  have hS : va_S nA s.heap s.heap [] := va_S.rf
  have hl : lv_has ls 4 [(0, .ref bo)] := hl
  have hP : va_P D vwCl [(bo, .inr (0, [.int (nI sq), .int sh, .int lo, .ref ax, .ref ay, .ref az, .ref ab, .ref af, .ref ag])), (ab, .inl (cJ, 49, .inr (.inl bu)))] s.heap := hP
  refine lv_iconst (v := 0) hx hb dX0_reach_0 (by decide) ?_
  refine lv_istore_n (lv' := [(1, .int 0), (0, .ref bo)]) hx hb dX0_reach_1 rfl hl (by decide) rfl (fun ls hl => ?_)
  refine lv_iconst (v := 0) hx hb dX0_reach_2 (by decide) ?_
  refine lv_istore_n (lv' := [(2, .int 0), (1, .int 0), (0, .ref bo)]) hx hb dX0_reach_3 rfl hl (by decide) rfl (fun ls hl => ?_)
  have lp : ∀ (fu : Nat) (k : Nat), (k ≤ 49) → 49 - k < fu → ∀ (ls : Array Slot) (H : Heap) (locs : List Loc), lv_has ls 4 [(0, .ref bo), (1, .int (rchA bu k)), (2, .int (nI k))] → va_P D vwCl [(bo, .inr (0, [.int (nI sq), .int sh, .int lo, .ref ax, .ref ay, .ref az, .ref ab, .ref af, .ref ag])), (ab, .inl (cJ, 49, .inr (.inl bu)))] H → va_S nA s.heap H locs → W p l e rmX0_reach s m args below meth c H locs 0 0 Q (F0 m 4 ls []) := by
    intro fu
    induction fu with
    | zero => intro k hk hf; exact absurd hf (Nat.not_lt_zero _)
    | succ fu ih_lp =>
      intro k hk hf ls H locs hl hP hS
      refine lv_iload_n hx hb dX0_reach_4 rfl (lv_at hl 2 rfl) ?_
      refine lv_bipush (v := 49) hx hb dX0_reach_5 (by decide) ?_
      refine r_icmp_ge (tgt := 68) hx hb k 49 dX0_reach_7 (by decide) rfl rfl (by omega) (by omega) (fun c_7 => ?_) (fun c_7 => ?_)
      · refine lv_iload_n hx hb dX0_reach_68 rfl (lv_at hl 1 rfl) ?_
        exact endRI hx hb hr hlocks hQ hS dX0_reach_69 (by rw [show k = 49 by omega])
      · refine lv_iconst (v := 0) hx hb dX0_reach_10 (by decide) ?_
        refine lv_istore_n (lv' := [(3, .int 0), (0, .ref bo), (1, .int (rchA bu k)), (2, .int (nI k))]) hx hb dX0_reach_11 rfl hl (by decide) rfl (fun ls hl => ?_)
        have inn : ∀ (fu : Nat) (cl : Nat), (cl ≤ 49) → 49 - cl < fu → ∀ (ls : Array Slot) (H : Heap) (locs : List Loc), lv_has ls 4 [(0, .ref bo), (1, .int (rchR bu k (rchA bu k) cl)), (2, .int (nI k)), (3, .int (nI cl))] → va_P D vwCl [(bo, .inr (0, [.int (nI sq), .int sh, .int lo, .ref ax, .ref ay, .ref az, .ref ab, .ref af, .ref ag])), (ab, .inl (cJ, 49, .inr (.inl bu)))] H → va_S nA s.heap H locs → W p l e rmX0_reach s m args below meth c H locs 0 0 Q (F0 m 12 ls []) := by
          intro fu
          induction fu with
          | zero => intro cl hc hf; exact absurd hf (Nat.not_lt_zero _)
          | succ fu ih_inn =>
            intro cl hc hf ls H locs hl hP hS
            refine lv_iload_n hx hb dX0_reach_12 rfl (lv_at hl 3 rfl) ?_
            refine lv_bipush (v := 49) hx hb dX0_reach_13 (by decide) ?_
            refine r_icmp_ge (tgt := 62) hx hb cl 49 dX0_reach_15 (by decide) rfl rfl (by omega) (by omega) (fun c_15 => ?_) (fun c_15 => ?_)
            · refine r_iinc (lv' := [(2, .int (nI (k + 1))), (0, .ref bo), (1, .int (rchR bu k (rchA bu k) cl)), (3, .int (nI cl))]) hx hb 2 k dX0_reach_62 hl rfl (by decide) rfl (fun ls hl => ?_)
              refine lv_goto (tgt := 4) hx hb dX0_reach_65 (by decide) ?_
              exact ih_lp (k + 1) (by omega) (by omega) ls _ _ (by rw [show cl = 49 by omega] at hl; exact lv_sub hl [1, 2, 0] rfl) hP hS
            · refine lv_aload_n hx hb dX0_reach_18 rfl (lv_at hl 0 rfl) ?_
              refine va_get (D := D) (ci := 0) (v := .ref ab) (C := RX0) (T := TX0) (N := 9) hx hb hts hi_0 hown hK hP 0 rfl rfl 6 (by decide) hf_21 (fun _ h9 => h9) rfl dX0_reach_19 ?_
              refine lv_iload_n hx hb dX0_reach_22 rfl (lv_at hl 2 rfl) ?_
              refine r_lald hx hb hK hP 1 rfl k rfl (by omega) (by omega) dX0_reach_23 ?_
              refine lv_iload_n hx hb dX0_reach_24 rfl (lv_at hl 3 rfl) ?_
              refine lv_lshr (v := (bu k) >>> ((nI cl).toInt64 &&& 63)) hx hb dX0_reach_25 rfl ?_
              refine lv_lconst (v := 1) hx hb dX0_reach_26 (by decide) ?_
              refine lv_land hx hb dX0_reach_27 ?_
              refine lv_lconst (v := 0) hx hb dX0_reach_28 (by decide) ?_
              refine W.lcmp hx hb dX0_reach_29 ?_
              refine lv_if_ne (tgt := 36) hx hb dX0_reach_30 (by decide) (fun c_30 => ?_) (fun c_30 => ?_)
              · refine lv_iload_n hx hb dX0_reach_36 rfl (lv_at hl 1 rfl) ?_
                refine lv_iload_n hx hb dX0_reach_37 rfl (lv_at hl 2 rfl) ?_
                refine lv_bipush (v := 24) hx hb dX0_reach_38 (by decide) ?_
                refine lv_isub hx hb dX0_reach_40 ?_
                refine va_mabs hx hb (hml.trans hl.1.symm) hown hm0_abs hm1_abs hm2_abs hm3_abs (Nat.le_of_ble_eq_true rfl) (Nat.le_of_ble_eq_true rfl) (Nat.zero_le _) (Nat.zero_le _) dX0_reach_41 ?_
                refine lv_iload_n hx hb dX0_reach_44 rfl (lv_at hl 3 rfl) ?_
                refine lv_bipush (v := 24) hx hb dX0_reach_45 (by decide) ?_
                refine lv_isub hx hb dX0_reach_47 ?_
                refine va_mabs hx hb (hml.trans hl.1.symm) hown hm0_abs hm1_abs hm2_abs hm3_abs (Nat.le_of_ble_eq_true rfl) (Nat.le_of_ble_eq_true rfl) (Nat.zero_le _) (Nat.zero_le _) dX0_reach_48 ?_
                refine lv_iadd hx hb dX0_reach_51 ?_
                refine va_mmax hx hb (hml.trans hl.1.symm) hown hm0_max hm1_max hm2_max hm3_max (Nat.le_of_ble_eq_true rfl) (Nat.le_of_ble_eq_true rfl) (Nat.zero_le _) (Nat.zero_le _) dX0_reach_52 ?_
                refine lv_istore_n (lv' := [(1, .int (if (rchR bu k (rchA bu k) cl) < ((if 0 ≤ ((nI k) - 24) then ((nI k) - 24) else 0 - ((nI k) - 24)) + (if 0 ≤ ((nI cl) - 24) then ((nI cl) - 24) else 0 - ((nI cl) - 24))) then ((if 0 ≤ ((nI k) - 24) then ((nI k) - 24) else 0 - ((nI k) - 24)) + (if 0 ≤ ((nI cl) - 24) then ((nI cl) - 24) else 0 - ((nI cl) - 24))) else (rchR bu k (rchA bu k) cl))), (0, .ref bo), (2, .int (nI k)), (3, .int (nI cl))]) hx hb dX0_reach_55 rfl hl (by decide) rfl (fun ls hl => ?_)
                refine r_iinc (lv' := [(3, .int (nI (cl + 1))), (1, .int (if (rchR bu k (rchA bu k) cl) < ((if 0 ≤ ((nI k) - 24) then ((nI k) - 24) else 0 - ((nI k) - 24)) + (if 0 ≤ ((nI cl) - 24) then ((nI cl) - 24) else 0 - ((nI cl) - 24))) then ((if 0 ≤ ((nI k) - 24) then ((nI k) - 24) else 0 - ((nI k) - 24)) + (if 0 ≤ ((nI cl) - 24) then ((nI cl) - 24) else 0 - ((nI cl) - 24))) else (rchR bu k (rchA bu k) cl))), (0, .ref bo), (2, .int (nI k))]) hx hb 3 cl dX0_reach_56 hl rfl (by decide) rfl (fun ls hl => ?_)
                refine lv_goto (tgt := 12) hx hb dX0_reach_59 (by decide) ?_
                exact ih_inn (cl + 1) (by omega) (by omega) ls _ _ (by rw [rchR, if_neg c_30]; exact lv_sub hl [2, 1, 3, 0] rfl) hP hS
              · refine lv_goto (tgt := 56) hx hb dX0_reach_33 (by decide) ?_
                refine r_iinc (lv' := [(3, .int (nI (cl + 1))), (0, .ref bo), (1, .int (rchR bu k (rchA bu k) cl)), (2, .int (nI k))]) hx hb 3 cl dX0_reach_56 hl rfl (by decide) rfl (fun ls hl => ?_)
                refine lv_goto (tgt := 12) hx hb dX0_reach_59 (by decide) ?_
                exact ih_inn (cl + 1) (by omega) (by omega) ls _ _ (by rw [rchR, if_pos c_30]; exact lv_sub hl [1, 2, 3, 0] rfl) hP hS
        exact inn _ 0 (by omega) (Nat.lt_succ_self _) ls _ _ (lv_sub hl [1, 2, 3, 0] rfl) hP hS
  exact lp _ 0 (by omega) (Nat.lt_succ_self _) ls _ _ (lv_sub hl [2, 1, 0] rfl) hP hS

/-! the reference's board -/
def crd (X : Nat) : Int32 := nI X - 30
theorem crd_s (X : Nat) : crd X + 1 = crd (X + 1) := by
  show nI X - 30 + 1 = nI (X + 1) - 30
  rw [← nI_add X 1]
  show nI X - 30 + 1 = nI X + 1 - 30
  rw [Int32.sub_eq_add_neg, Int32.sub_eq_add_neg, Int32.add_assoc, Int32.add_assoc, Int32.add_comm (-30) 1]
theorem crd_p {X : Nat} (h : 1 ≤ X) : crd X - 1 = crd (X - 1) := by
  obtain ⟨k, rfl⟩ : ∃ k, X = k + 1 := ⟨X - 1, by omega⟩
  show crd (k + 1) - 1 = crd k
  rw [← crd_s, Int32.add_sub_cancel]
theorem crd_30 (X : Nat) : crd X + 30 = nI X := Int32.sub_add_cancel _ _
theorem crd_sq (X Y : Nat) : 61 * (crd Y + 30) + crd X + 30 = nI (61 * Y + X) := by
  rw [crd_30, Int32.add_assoc, crd_30, ← nI_add, ← pk_mul]
  rfl
theorem crd_le {X : Nat} (h : X ≤ 61) : crd X ≤ -30 ↔ X = 0 := by
  have : ∀ k, k < 62 → (crd k ≤ -30 ↔ k = 0) := by decide
  exact this X (by omega)
theorem crd_ge {X : Nat} (h : X ≤ 61) : 30 ≤ crd X ↔ 60 ≤ X := by
  have : ∀ k, k < 62 → (30 ≤ crd k ↔ 60 ≤ k) := by decide
  exact this X (by omega)
theorem crd_gt {X : Nat} (h : X ≤ 61) : 30 < crd X ↔ X = 61 := by
  have : ∀ k, k < 62 → (30 < crd k ↔ k = 61) := by decide
  exact this X (by omega)
def sizeI (v : Int32) : Int32 := if 0 ≤ v then v else -v
def tchB (bb : Row) (X Y : Nat) : Bool := decide ((¬ crd X ≤ -30 ∧ bb (61 * Y + (X - 1)) = 1) ∨ (¬ 30 ≤ crd X ∧ bb (61 * Y + (X + 1)) = 1) ∨ (¬ crd Y ≤ -30 ∧ bb (61 * (Y - 1) + X) = 1) ∨ (¬ 30 ≤ crd Y ∧ bb (61 * (Y + 1) + X) = 1))
abbrev RBs := Row × Bool
def cellS (X Y : Nat) (q : RBs) : RBs := if q.1 (61 * Y + X) = 0 ∧ tchB q.1 X Y = true then (upd q.1 (61 * Y + X) 3, true) else q
def bxA (q : RBs) (Y : Nat) : Nat → RBs
  | 0 => q
  | X + 1 => cellS X Y (bxA q Y X)
def byA (w : Nat) (q : RBs) : Nat → RBs
  | 0 => q
  | Y + 1 => bxA (byA w q Y) Y w
def oneF (bb : Row) (k : Nat) : Row := fun j => if j < k then (if bb j = 3 then 1 else bb j) else bb j
theorem oneF_0 (bb : Row) : oneF bb 0 = bb := by
  funext j
  simp [oneF]
theorem oneF_S {bb : Row} {k : Nat} : oneF bb (k + 1) = upd (oneF bb k) k (if bb k = 3 then 1 else bb k) := by
  funext j
  simp only [oneF, upd]
  by_cases hj : j = k
  · subst hj
    simp
  · rw [if_neg hj]
    by_cases h2 : j < k
    · rw [if_pos h2, if_pos (by omega)]
    · rw [if_neg h2, if_neg (by omega)]
theorem oneF_k (bb : Row) (k : Nat) : oneF bb k k = bb k := by simp [oneF]
def sqM (wa : Row) (k : Nat) : Nat := (61 * (wa (3 * k + 1) + 30) + wa (3 * k) + 30).toNatClampNeg
/-- board, lost -/
abbrev RBl := Row × Int32
def bldS (wa : Row) (k : Nat) (q : RBl) : RBl := if q.1 (sqM wa k) = 1 then (upd q.1 (sqM wa k) 1, q.2 + 1) else (upd q.1 (sqM wa k) 2, q.2 + 0)
def bldA (wa : Row) (t : Int32) (q : RBl) : Nat → RBl
  | 0 => q
  | k + 1 => if wa (3 * k + 2) = t then bldS wa k (bldA wa t q k) else bldA wa t q k
def WallOK (wa : Row) (sq : Nat) : Prop := ∀ k, k < sq → 61 * (wa (3 * k + 1) + 30) + wa (3 * k) + 30 = nI (sqM wa k) ∧ sqM wa k < 3721
/-- board, lost, shut -/
abbrev RBt := Row × Int32 × Int32
def runS (w : Nat) (wa : Row) (sq t : Nat) (q : RBt) : RBt :=
  (oneF (byA w ((bldA wa (nI t) (q.1, q.2.1) sq).1, false) w).1 3721, (bldA wa (nI t) (q.1, q.2.1) sq).2, if (byA w ((bldA wa (nI t) (q.1, q.2.1) sq).1, false) w).2 = true then -1 else nI t)
def runA (w : Nat) (wa : Row) (sq : Nat) (q : RBt) : Nat → RBt
  | 0 => q
  | k + 1 => if (runA w wa sq q k).2.2 < 0 then runS w wa sq (k + 1) (runA w wa sq q k) else runA w wa sq q k
theorem runA_stop {w : Nat} {wa : Row} {sq : Nat} {q : RBt} {k : Nat} (h : ¬ (runA w wa sq q k).2.2 < 0) : ∀ j, runA w wa sq q (k + j) = runA w wa sq q k
  | 0 => rfl
  | j + 1 => by
    show (if (runA w wa sq q (k + j)).2.2 < 0 then _ else runA w wa sq q (k + j)) = _
    rw [runA_stop h j, if_neg h]
def run0 (bb : Row) : RBt := (upd (fillF bb 0 3721) 1860 1, 0, -1)
/-- on fire, far -/
abbrev RBc := Int32 × Int32
def ctS (bb : Row) (X Y : Nat) (q : RBc) : RBc := if bb (61 * Y + X) = 1 then (q.1 + 1, if q.2 < sizeI (crd X) + sizeI (crd Y) then sizeI (crd X) + sizeI (crd Y) else q.2) else (q.1 + 0, q.2)
def ctX (bb : Row) (Y : Nat) (q : RBc) : Nat → RBc
  | 0 => q
  | X + 1 => ctS bb X Y (ctX bb Y q X)
def ctY (w : Nat) (bb : Row) : Nat → RBc
  | 0 => (0, 0)
  | Y + 1 => ctX bb Y (ctY w bb Y) w
def boardR (w : Nat) (y : RBt) (what : Int32) : Int32 := if 0 ≤ what ∧ what ≤ 3 then if what = 0 then y.2.2 else if what = 1 then (ctY w y.1 w).1 else if what = 2 then y.2.1 else (ctY w y.1 w).2 else -1002
def rmX7_wall : Room := { frames := 1, cells := 0, slots := 0, locals := 25 }
theorem kdX7_wall : yX7_wall.cls = RX7 ∧ yX7_wall.cls ≠ "java/lang/invoke/MethodHandle" ∧ yX7_wall.cls ≠ "java/lang/invoke/VarHandle" ∧ (parseMethodDescriptor yX7_wall.desc).map (fun d => d.parameters.length) = some 3 := ⟨rfl, by decide +kernel, by decide +kernel, by decide +kernel⟩
set_option maxRecDepth 100000 in
set_option maxHeartbeats 1000000 in
theorem kX7_wall (l : Launch) (D : va_G) (cI cJ : ClassId) (mo : Nat) (nn : Nat) (mm : Nat) (me : Nat) (mj : Nat) (mw : Nat) (mp : Nat) (mu : Nat) (ke : Bool) (bd : Int32) (ml : Nat) (sq : Nat) (mq : Nat) (fi : Int32) (gu : Int32) (le : Int32) (cs : Int32) (ba : Bool) (ov : Int32) (m1 : Nat) (m2 : Nat) (m3 : Nat) (m4 : Nat) (lk : Int32) (sp : Bool) (bs : Int32) (bo : Int32) (m5 : Nat) (m6 : Nat) (m7 : Nat) (su : Int32) (sl : Int32) (m8 : Nat) (lo : Int32) (sh : Int32) (wa : Row) (x y t : Int32) (hsq : sq ≤ 40) : Met l yX7_wall wsX7_wall rmX7_wall (mPre D cI cJ [.ref mo, .int x, .int y, .int t] [(mo, .inr (7, moV (nI nn) (nI mm) me mj mw mp mu (zb (ke = true)) bd ml (nI sq) mq fi gu le cs (zb (ba = true)) ov m1 m2 m3 m4 lk (zb (sp = true)) bs bo m5 m6 m7 su sl m8 lo sh)), (mq, .inl (cI, 120, .inl wa))]) (mQi D (fun (r : Int32) (_ : Unit) => r = (wallR wa sq x y t)) (fun (_ : Unit) => [(mo, .inr (7, moV (nI nn) (nI mm) me mj mw mp mu (zb (ke = true)) bd ml (nI (if wallC wa sq x y t = true then sq + 1 else sq)) mq fi gu le cs (zb (ba = true)) ov m1 m2 m3 m4 lk (zb (sp = true)) bs bo m5 m6 m7 su sl m8 lo sh)), (mq, .inl (cI, 120, .inl (if wallC wa sq x y t = true then upd (upd (upd wa (3 * sq) x) (3 * sq + 1) y) (3 * sq + 2) t else wa)))]) [(mo, .inr (7, moV (nI nn) (nI mm) me mj mw mp mu (zb (ke = true)) bd ml (nI sq) mq fi gu le cs (zb (ba = true)) ov m1 m2 m3 m4 lk (zb (sp = true)) bs bo m5 m6 m7 su sl m8 lo sh)), (mq, .inl (cI, 120, .inl wa))]) 0 0 (mA [(mo, .inr (7, moV (nI nn) (nI mm) me mj mw mp mu (zb (ke = true)) bd ml (nI sq) mq fi gu le cs (zb (ba = true)) ov m1 m2 m3 m4 lk (zb (sp = true)) bs bo m5 m6 m7 su sl m8 lo sh)), (mq, .inl (cI, 120, .inl wa))]) := by
  refine startM (cc := cX7_wall) (maxL := 5) (ret := (some .int)) (by decide) rfl (Nat.le_of_ble_eq_true rfl) ?_
  intro p e s m args below meth c ls Q A hA hQ hx hb hr hlocks hml hown hts hK hN hP hD hl hin
  have hown : s.vm.findClass RX7 = some m.cls := hown
  have hi_7 : ∀ w ∈ wsX70, w ∈ wsX7_wall := by decide +kernel
  have hf_35 := hts (.fieldLink RX7 35 "FireNetsModel" "wall" "[I") (by decide +kernel)
  have hf_96 := hts (.fieldLink RX7 96 "FireNetsModel" "squares" "I") (by decide +kernel)
  have hc_232 := hts (.constantLong RX7 232 (-30)) (by decide +kernel)
  have hc_234 := hts (.constantLong RX7 234 (30)) (by decide +kernel)
  have hc_86 := hts (.constantLong RX7 86 (20)) (by decide +kernel)
  have hS : va_S A s.heap s.heap [] := va_S.rf
  have hl : lv_has ls 5 [(0, .ref mo), (1, .int x), (2, .int y), (3, .int t)] := hl
  have hP : va_P D vwCl [(mo, .inr (7, moV (nI nn) (nI mm) me mj mw mp mu (zb (ke = true)) bd ml (nI sq) mq fi gu le cs (zb (ba = true)) ov m1 m2 m3 m4 lk (zb (sp = true)) bs bo m5 m6 m7 su sl m8 lo sh)), (mq, .inl (cI, 120, .inl wa))] s.heap := hP
  refine lv_iload_n hx hb dX7_wall_0 rfl (lv_at hl 1 rfl) ?_
  refine lv_i2l (v := x.toInt64) hx hb dX7_wall_1 rfl ?_
  refine lv_ldc2 (v := (-30)) hx hb hown hc_232 dX7_wall_2 ?_
  refine lv_ldc2 (v := 30) hx hb hown hc_234 dX7_wall_5 ?_
  refine goRI hP hS (va_runS (As := [.long x.toInt64, .long (-30), .long 30]) (rest := []) ⟨hx, hb, hml, hown, hts⟩ (kX7_in l D cI cJ x.toInt64 (-30) 30) (va_cwS 3 hts gX7_wall_X7_in rfl rfl rfl kdX7_in.2 ⟨Nat.le_of_ble_eq_true rfl, Nat.le_of_ble_eq_true rfl⟩) (preR hK hN hP [] rfl) rfl rfl hl.1 rfl (lv_room (Nat.le_of_ble_eq_true rfl)) dX7_wall_8 ⟨Nat.zero_le _, Nat.zero_le _⟩) (fun H locs hP hS => ?_)
  refine r_top (x' := zb (-30 ≤ x ∧ x ≤ 30)) (zb_iff (in_c (by first | rfl | decide) (by first | rfl | decide))) ?_
  refine r_zeq (tgt := 48) hx hb dX7_wall_11 (by decide) (fun c_11 => ?_) (fun c_11 => ?_)
  · refine lv_sipush (v := (-1002)) hx hb dX7_wall_48 (by decide) ?_
    exact endMI () hx hb hr hlocks hA hQ hS hP dX7_wall_51 (by have hL : ¬ (wallC wa sq x y t = true) := (fun h => (fun h => c_11 h.1) (of_decide_eq_true h)); simp only [if_neg hL]) (by rw [wallR, if_neg c_11])
  · refine lv_iload_n hx hb dX7_wall_14 rfl (lv_at hl 2 rfl) ?_
    refine lv_i2l (v := y.toInt64) hx hb dX7_wall_15 rfl ?_
    refine lv_ldc2 (v := (-30)) hx hb hown hc_232 dX7_wall_16 ?_
    refine lv_ldc2 (v := 30) hx hb hown hc_234 dX7_wall_19 ?_
    refine goRI hP hS (va_runS (As := [.long y.toInt64, .long (-30), .long 30]) (rest := []) ⟨hx, hb, hml, hown, hts⟩ (kX7_in l D cI cJ y.toInt64 (-30) 30) (va_cwS 3 hts gX7_wall_X7_in rfl rfl rfl kdX7_in.2 ⟨Nat.le_of_ble_eq_true rfl, Nat.le_of_ble_eq_true rfl⟩) (preR hK hN hP [] rfl) rfl rfl hl.1 rfl (lv_room (Nat.le_of_ble_eq_true rfl)) dX7_wall_22 ⟨Nat.zero_le _, Nat.zero_le _⟩) (fun H locs hP hS => ?_)
    refine r_top (x' := zb (-30 ≤ y ∧ y ≤ 30)) (zb_iff (in_c (by first | rfl | decide) (by first | rfl | decide))) ?_
    refine r_zeq (tgt := 48) hx hb dX7_wall_25 (by decide) (fun c_25 => ?_) (fun c_25 => ?_)
    · refine lv_sipush (v := (-1002)) hx hb dX7_wall_48 (by decide) ?_
      exact endMI () hx hb hr hlocks hA hQ hS hP dX7_wall_51 (by have hL : ¬ (wallC wa sq x y t = true) := (fun h => (fun h => c_25 h.2.1) (of_decide_eq_true h)); simp only [if_neg hL]) (by rw [wallR, if_pos c_11, if_neg c_25])
    · refine lv_iload_n hx hb dX7_wall_28 rfl (lv_at hl 1 rfl) ?_
      refine lv_if_ne (tgt := 36) hx hb dX7_wall_29 (by decide) (fun c_29 => ?_) (fun c_29 => ?_)
      · refine lv_iload_n hx hb dX7_wall_36 rfl (lv_at hl 3 rfl) ?_
        refine lv_i2l (v := t.toInt64) hx hb dX7_wall_37 rfl ?_
        refine lv_lconst (v := 1) hx hb dX7_wall_38 (by decide) ?_
        refine lv_ldc2 (v := 20) hx hb hown hc_86 dX7_wall_39 ?_
        refine goRI hP hS (va_runS (As := [.long t.toInt64, .long 1, .long 20]) (rest := []) ⟨hx, hb, hml, hown, hts⟩ (kX7_in l D cI cJ t.toInt64 1 20) (va_cwS 3 hts gX7_wall_X7_in rfl rfl rfl kdX7_in.2 ⟨Nat.le_of_ble_eq_true rfl, Nat.le_of_ble_eq_true rfl⟩) (preR hK hN hP [] rfl) rfl rfl hl.1 rfl (lv_room (Nat.le_of_ble_eq_true rfl)) dX7_wall_42 ⟨Nat.zero_le _, Nat.zero_le _⟩) (fun H locs hP hS => ?_)
        refine r_top (x' := zb (1 ≤ t ∧ t ≤ 20)) (zb_iff (in_c (by first | rfl | decide) (by first | rfl | decide))) ?_
        refine r_zne (tgt := 52) hx hb dX7_wall_45 (by decide) (fun c_45 => ?_) (fun c_45 => ?_)
        · refine lv_iconst (v := 0) hx hb dX7_wall_52 (by decide) ?_
          refine lv_istore (lv' := [(4, .int 0), (0, .ref mo), (1, .int x), (2, .int y), (3, .int t)]) hx hb dX7_wall_53 hl (by decide) rfl (fun ls hl => ?_)
          have lp : ∀ (fu : Nat) (k : Nat), (k ≤ sq) → (isWM wa x y k = false) → sq - k < fu → ∀ (ls : Array Slot) (H : Heap) (locs : List Loc), lv_has ls 5 [(0, .ref mo), (1, .int x), (2, .int y), (3, .int t), (4, .int (nI k))] → va_P D vwCl [(mo, .inr (7, moV (nI nn) (nI mm) me mj mw mp mu (zb (ke = true)) bd ml (nI sq) mq fi gu le cs (zb (ba = true)) ov m1 m2 m3 m4 lk (zb (sp = true)) bs bo m5 m6 m7 su sl m8 lo sh)), (mq, .inl (cI, 120, .inl wa))] H → va_D A [(mo, .inr (7, moV (nI nn) (nI mm) me mj mw mp mu (zb (ke = true)) bd ml (nI sq) mq fi gu le cs (zb (ba = true)) ov m1 m2 m3 m4 lk (zb (sp = true)) bs bo m5 m6 m7 su sl m8 lo sh)), (mq, .inl (cI, 120, .inl wa))] → va_S A s.heap H locs → W p l e rmX7_wall s m args below meth c H locs 0 0 Q (F0 m 55 ls []) := by
            intro fu
            induction fu with
            | zero => intro k hk hw0 hf; exact absurd hf (Nat.not_lt_zero _)
            | succ fu ih_lp =>
              intro k hk hw0 hf ls H locs hl hP hD hS
              refine lv_iload hx hb dX7_wall_55 (lv_at hl 4 rfl) ?_
              refine lv_aload_n hx hb dX7_wall_57 rfl (lv_at hl 0 rfl) ?_
              refine va_get (D := D) (ci := 7) (v := .int (nI sq)) (C := RX7) (T := TX7) (N := 34) hx hb hts hi_7 hown hK hP 0 rfl rfl 10 (by decide) hf_96 (fun _ h9 => h9) rfl dX7_wall_58 ?_
              refine r_icmp_ge (tgt := 102) hx hb k sq dX7_wall_61 (by decide) rfl rfl (by omega) (by omega) (fun c_61 => ?_) (fun c_61 => ?_)
              · refine lv_aload_n hx hb dX7_wall_102 rfl (lv_at hl 0 rfl) ?_
                refine va_get (D := D) (ci := 7) (v := .int (nI sq)) (C := RX7) (T := TX7) (N := 34) hx hb hts hi_7 hown hK hP 0 rfl rfl 10 (by decide) hf_96 (fun _ h9 => h9) rfl dX7_wall_103 ?_
                refine lv_bipush (v := 40) hx hb dX7_wall_106 (by decide) ?_
                refine r_icmp_ne (tgt := 115) hx hb sq 40 dX7_wall_108 (by decide) rfl rfl (by omega) (by omega) (fun c_108 => ?_) (fun c_108 => ?_)
                · refine lv_aload_n hx hb dX7_wall_115 rfl (lv_at hl 0 rfl) ?_
                  refine va_get (D := D) (ci := 7) (v := .ref mq) (C := RX7) (T := TX7) (N := 34) hx hb hts hi_7 hown hK hP 0 rfl rfl 11 (by decide) hf_35 (fun _ h9 => h9) rfl dX7_wall_116 ?_
                  refine lv_iconst (v := 3) hx hb dX7_wall_119 (by decide) ?_
                  refine lv_aload_n hx hb dX7_wall_120 rfl (lv_at hl 0 rfl) ?_
                  refine va_get (D := D) (ci := 7) (v := .int (nI sq)) (C := RX7) (T := TX7) (N := 34) hx hb hts hi_7 hown hK hP 0 rfl rfl 10 (by decide) hf_96 (fun _ h9 => h9) rfl dX7_wall_121 ?_
                  refine lv_imul hx hb dX7_wall_124 ?_
                  refine r_top (x' := nI (3 * sq)) (pk_mul 3 sq) ?_
                  refine lv_iload_n hx hb dX7_wall_125 rfl (lv_at hl 1 rfl) ?_
                  refine r_iast hx hb hK hP hD hS 1 rfl (3 * sq) rfl (by omega) (by omega) dX7_wall_126 (fun H locs hP hD hS => ?_)
                  have hP : va_P D vwCl [(mo, .inr (7, moV (nI nn) (nI mm) me mj mw mp mu (zb (ke = true)) bd ml (nI sq) mq fi gu le cs (zb (ba = true)) ov m1 m2 m3 m4 lk (zb (sp = true)) bs bo m5 m6 m7 su sl m8 lo sh)), (mq, .inl (cI, 120, .inl (upd wa (3 * sq) x)))] H := hP
                  have hD : va_D A [(mo, .inr (7, moV (nI nn) (nI mm) me mj mw mp mu (zb (ke = true)) bd ml (nI sq) mq fi gu le cs (zb (ba = true)) ov m1 m2 m3 m4 lk (zb (sp = true)) bs bo m5 m6 m7 su sl m8 lo sh)), (mq, .inl (cI, 120, .inl (upd wa (3 * sq) x)))] := hD
                  refine lv_aload_n hx hb dX7_wall_127 rfl (lv_at hl 0 rfl) ?_
                  refine va_get (D := D) (ci := 7) (v := .ref mq) (C := RX7) (T := TX7) (N := 34) hx hb hts hi_7 hown hK hP 0 rfl rfl 11 (by decide) hf_35 (fun _ h9 => h9) rfl dX7_wall_128 ?_
                  refine lv_iconst (v := 3) hx hb dX7_wall_131 (by decide) ?_
                  refine lv_aload_n hx hb dX7_wall_132 rfl (lv_at hl 0 rfl) ?_
                  refine va_get (D := D) (ci := 7) (v := .int (nI sq)) (C := RX7) (T := TX7) (N := 34) hx hb hts hi_7 hown hK hP 0 rfl rfl 10 (by decide) hf_96 (fun _ h9 => h9) rfl dX7_wall_133 ?_
                  refine lv_imul hx hb dX7_wall_136 ?_
                  refine r_top (x' := nI (3 * sq)) (pk_mul 3 sq) ?_
                  refine lv_iconst (v := 1) hx hb dX7_wall_137 (by decide) ?_
                  refine lv_iadd hx hb dX7_wall_138 ?_
                  refine r_top (x' := nI ((3 * sq) + 1)) (nI_add (3 * sq) 1) ?_
                  refine lv_iload_n hx hb dX7_wall_139 rfl (lv_at hl 2 rfl) ?_
                  refine r_iast hx hb hK hP hD hS 1 rfl ((3 * sq) + 1) rfl (by omega) (by omega) dX7_wall_140 (fun H locs hP hD hS => ?_)
                  have hP : va_P D vwCl [(mo, .inr (7, moV (nI nn) (nI mm) me mj mw mp mu (zb (ke = true)) bd ml (nI sq) mq fi gu le cs (zb (ba = true)) ov m1 m2 m3 m4 lk (zb (sp = true)) bs bo m5 m6 m7 su sl m8 lo sh)), (mq, .inl (cI, 120, .inl (upd (upd wa (3 * sq) x) ((3 * sq) + 1) y)))] H := hP
                  have hD : va_D A [(mo, .inr (7, moV (nI nn) (nI mm) me mj mw mp mu (zb (ke = true)) bd ml (nI sq) mq fi gu le cs (zb (ba = true)) ov m1 m2 m3 m4 lk (zb (sp = true)) bs bo m5 m6 m7 su sl m8 lo sh)), (mq, .inl (cI, 120, .inl (upd (upd wa (3 * sq) x) ((3 * sq) + 1) y)))] := hD
                  refine lv_aload_n hx hb dX7_wall_141 rfl (lv_at hl 0 rfl) ?_
                  refine va_get (D := D) (ci := 7) (v := .ref mq) (C := RX7) (T := TX7) (N := 34) hx hb hts hi_7 hown hK hP 0 rfl rfl 11 (by decide) hf_35 (fun _ h9 => h9) rfl dX7_wall_142 ?_
                  refine lv_iconst (v := 3) hx hb dX7_wall_145 (by decide) ?_
                  refine lv_aload_n hx hb dX7_wall_146 rfl (lv_at hl 0 rfl) ?_
                  refine va_get (D := D) (ci := 7) (v := .int (nI sq)) (C := RX7) (T := TX7) (N := 34) hx hb hts hi_7 hown hK hP 0 rfl rfl 10 (by decide) hf_96 (fun _ h9 => h9) rfl dX7_wall_147 ?_
                  refine lv_imul hx hb dX7_wall_150 ?_
                  refine r_top (x' := nI (3 * sq)) (pk_mul 3 sq) ?_
                  refine lv_iconst (v := 2) hx hb dX7_wall_151 (by decide) ?_
                  refine lv_iadd hx hb dX7_wall_152 ?_
                  refine r_top (x' := nI ((3 * sq) + 2)) (nI_add (3 * sq) 2) ?_
                  refine lv_iload_n hx hb dX7_wall_153 rfl (lv_at hl 3 rfl) ?_
                  refine r_iast hx hb hK hP hD hS 1 rfl ((3 * sq) + 2) rfl (by omega) (by omega) dX7_wall_154 (fun H locs hP hD hS => ?_)
                  have hP : va_P D vwCl [(mo, .inr (7, moV (nI nn) (nI mm) me mj mw mp mu (zb (ke = true)) bd ml (nI sq) mq fi gu le cs (zb (ba = true)) ov m1 m2 m3 m4 lk (zb (sp = true)) bs bo m5 m6 m7 su sl m8 lo sh)), (mq, .inl (cI, 120, .inl (upd (upd (upd wa (3 * sq) x) ((3 * sq) + 1) y) ((3 * sq) + 2) t)))] H := hP
                  have hD : va_D A [(mo, .inr (7, moV (nI nn) (nI mm) me mj mw mp mu (zb (ke = true)) bd ml (nI sq) mq fi gu le cs (zb (ba = true)) ov m1 m2 m3 m4 lk (zb (sp = true)) bs bo m5 m6 m7 su sl m8 lo sh)), (mq, .inl (cI, 120, .inl (upd (upd (upd wa (3 * sq) x) ((3 * sq) + 1) y) ((3 * sq) + 2) t)))] := hD
                  refine lv_aload_n hx hb dX7_wall_155 rfl (lv_at hl 0 rfl) ?_
                  refine lv_dup hx hb dX7_wall_156 rfl ?_
                  refine va_get (D := D) (ci := 7) (v := .int (nI sq)) (C := RX7) (T := TX7) (N := 34) hx hb hts hi_7 hown hK hP 0 rfl rfl 10 (by decide) hf_96 (fun _ h9 => h9) rfl dX7_wall_157 ?_
                  refine lv_iconst (v := 1) hx hb dX7_wall_160 (by decide) ?_
                  refine lv_iadd hx hb dX7_wall_161 ?_
                  refine r_top (x' := nI (sq + 1)) (nI_add sq 1) ?_
                  refine va_put (D := D) (ci := 7) (v := .int (nI (sq + 1))) (ty := .int) (C := RX7) (T := TX7) (N := 34) hx hb hts hi_7 tyX7 tyX7_ok nmX7 hown hK hP hD hS 0 rfl rfl 10 (by decide) hf_96 (fun _ h9 => h9) rfl (by decide +kernel) rfl rfl (Nat.le_of_ble_eq_true rfl) dX7_wall_162 (fun H locs hP hD hS => ?_)
                  have hP : va_P D vwCl [(mo, .inr (7, moV (nI nn) (nI mm) me mj mw mp mu (zb (ke = true)) bd ml (nI (sq + 1)) mq fi gu le cs (zb (ba = true)) ov m1 m2 m3 m4 lk (zb (sp = true)) bs bo m5 m6 m7 su sl m8 lo sh)), (mq, .inl (cI, 120, .inl (upd (upd (upd wa (3 * sq) x) ((3 * sq) + 1) y) ((3 * sq) + 2) t)))] H := hP
                  have hD : va_D A [(mo, .inr (7, moV (nI nn) (nI mm) me mj mw mp mu (zb (ke = true)) bd ml (nI (sq + 1)) mq fi gu le cs (zb (ba = true)) ov m1 m2 m3 m4 lk (zb (sp = true)) bs bo m5 m6 m7 su sl m8 lo sh)), (mq, .inl (cI, 120, .inl (upd (upd (upd wa (3 * sq) x) ((3 * sq) + 1) y) ((3 * sq) + 2) t)))] := hD
                  refine lv_aload_n hx hb dX7_wall_165 rfl (lv_at hl 0 rfl) ?_
                  refine va_get (D := D) (ci := 7) (v := .int (nI (sq + 1))) (C := RX7) (T := TX7) (N := 34) hx hb hts hi_7 hown hK hP 0 rfl rfl 10 (by decide) hf_96 (fun _ h9 => h9) rfl dX7_wall_166 ?_
                  exact endMI () hx hb hr hlocks hA hQ hS hP dX7_wall_169 (by have hL : wallC wa sq x y t = true := decide_eq_true ⟨c_11, c_25, (by first | exact (fun h => c_29 h.1) | exact (fun h => c_33 h.2)), c_45, (by rw [show sq = k by omega]; exact hw0), c_108⟩; simp only [if_pos hL]) (by rw [wallR, if_pos c_11, if_pos c_25, if_neg (by first | exact (fun h => c_29 h.1) | exact (fun h => c_33 h.2)), if_pos c_45, if_neg (show ¬ isWM wa x y sq = true by rw [show sq = k by omega, hw0]; exact Bool.false_ne_true), if_neg c_108])
                · refine lv_sipush (v := (-1004)) hx hb dX7_wall_111 (by decide) ?_
                  exact endMI () hx hb hr hlocks hA hQ hS hP dX7_wall_114 (by have hL : ¬ (wallC wa sq x y t = true) := (fun h => (fun h => h.2.2.2.2.2 c_108) (of_decide_eq_true h)); simp only [if_neg hL]) (by rw [wallR, if_pos c_11, if_pos c_25, if_neg (by first | exact (fun h => c_29 h.1) | exact (fun h => c_33 h.2)), if_pos c_45, if_neg (show ¬ isWM wa x y sq = true by rw [show sq = k by omega, hw0]; exact Bool.false_ne_true), if_pos c_108])
              · refine lv_aload_n hx hb dX7_wall_64 rfl (lv_at hl 0 rfl) ?_
                refine va_get (D := D) (ci := 7) (v := .ref mq) (C := RX7) (T := TX7) (N := 34) hx hb hts hi_7 hown hK hP 0 rfl rfl 11 (by decide) hf_35 (fun _ h9 => h9) rfl dX7_wall_65 ?_
                refine lv_iconst (v := 3) hx hb dX7_wall_68 (by decide) ?_
                refine lv_iload hx hb dX7_wall_69 (lv_at hl 4 rfl) ?_
                refine lv_imul hx hb dX7_wall_71 ?_
                refine r_top (x' := nI (3 * k)) (pk_mul 3 k) ?_
                refine r_iald hx hb hK hP 1 rfl (3 * k) rfl (by omega) (by omega) dX7_wall_72 ?_
                refine lv_iload_n hx hb dX7_wall_73 rfl (lv_at hl 1 rfl) ?_
                refine lv_icmp_ne (tgt := 96) hx hb dX7_wall_74 (by decide) (fun c_74 => ?_) (fun c_74 => ?_)
                · refine r_iinc (lv' := [(4, .int (nI (k + 1))), (0, .ref mo), (1, .int x), (2, .int y), (3, .int t)]) hx hb 4 k dX7_wall_96 hl rfl (by decide) rfl (fun ls hl => ?_)
                  refine lv_goto (tgt := 55) hx hb dX7_wall_99 (by decide) ?_
                  exact ih_lp (k + 1) (by omega) (isWM_f (fun h => c_74 h.1) hw0) (by omega) ls _ _ (lv_sub hl [1, 2, 3, 4, 0] rfl) hP hD hS
                · refine lv_aload_n hx hb dX7_wall_77 rfl (lv_at hl 0 rfl) ?_
                  refine va_get (D := D) (ci := 7) (v := .ref mq) (C := RX7) (T := TX7) (N := 34) hx hb hts hi_7 hown hK hP 0 rfl rfl 11 (by decide) hf_35 (fun _ h9 => h9) rfl dX7_wall_78 ?_
                  refine lv_iconst (v := 3) hx hb dX7_wall_81 (by decide) ?_
                  refine lv_iload hx hb dX7_wall_82 (lv_at hl 4 rfl) ?_
                  refine lv_imul hx hb dX7_wall_84 ?_
                  refine r_top (x' := nI (3 * k)) (pk_mul 3 k) ?_
                  refine lv_iconst (v := 1) hx hb dX7_wall_85 (by decide) ?_
                  refine lv_iadd hx hb dX7_wall_86 ?_
                  refine r_top (x' := nI ((3 * k) + 1)) (nI_add (3 * k) 1) ?_
                  refine r_iald hx hb hK hP 1 rfl ((3 * k) + 1) rfl (by omega) (by omega) dX7_wall_87 ?_
                  refine lv_iload_n hx hb dX7_wall_88 rfl (lv_at hl 2 rfl) ?_
                  refine lv_icmp_ne (tgt := 96) hx hb dX7_wall_89 (by decide) (fun c_89 => ?_) (fun c_89 => ?_)
                  · refine r_iinc (lv' := [(4, .int (nI (k + 1))), (0, .ref mo), (1, .int x), (2, .int y), (3, .int t)]) hx hb 4 k dX7_wall_96 hl rfl (by decide) rfl (fun ls hl => ?_)
                    refine lv_goto (tgt := 55) hx hb dX7_wall_99 (by decide) ?_
                    exact ih_lp (k + 1) (by omega) (isWM_f (fun h => c_89 h.2) hw0) (by omega) ls _ _ (lv_sub hl [1, 2, 3, 4, 0] rfl) hP hD hS
                  · refine lv_sipush (v := (-1003)) hx hb dX7_wall_92 (by decide) ?_
                    exact endMI () hx hb hr hlocks hA hQ hS hP dX7_wall_95 (by have hL : ¬ (wallC wa sq x y t = true) := (fun h => (fun h => absurd (show isWM wa x y sq = true by rw [show sq = (k + 1) + (sq - (k + 1)) by omega]; exact isWM_mono (isWM_t ⟨c_74, c_89⟩) _) (by rw [h.2.2.2.2.1]; exact Bool.false_ne_true)) (of_decide_eq_true h)); simp only [if_neg hL]) (by rw [wallR, if_pos c_11, if_pos c_25, if_neg (by first | exact (fun h => c_29 h.1) | exact (fun h => c_33 h.2)), if_pos c_45, if_pos (show isWM wa x y sq = true by rw [show sq = (k + 1) + (sq - (k + 1)) by omega]; exact isWM_mono (isWM_t ⟨c_74, c_89⟩) _)])
          exact lp _ 0 (by omega) rfl (Nat.lt_succ_self _) ls _ _ (lv_sub hl [1, 2, 3, 4, 0] rfl) hP hD hS
        · refine lv_sipush (v := (-1002)) hx hb dX7_wall_48 (by decide) ?_
          exact endMI () hx hb hr hlocks hA hQ hS hP dX7_wall_51 (by have hL : ¬ (wallC wa sq x y t = true) := (fun h => (fun h => c_45 h.2.2.2.1) (of_decide_eq_true h)); simp only [if_neg hL]) (by rw [wallR, if_pos c_11, if_pos c_25, if_neg (fun h => c_29 h.1), if_neg c_45])
      · refine lv_iload_n hx hb dX7_wall_32 rfl (lv_at hl 2 rfl) ?_
        refine lv_if_eq (tgt := 48) hx hb dX7_wall_33 (by decide) (fun c_33 => ?_) (fun c_33 => ?_)
        · refine lv_sipush (v := (-1002)) hx hb dX7_wall_48 (by decide) ?_
          exact endMI () hx hb hr hlocks hA hQ hS hP dX7_wall_51 (by have hL : ¬ (wallC wa sq x y t = true) := (fun h => (fun h => h.2.2.1 ⟨c_29, c_33⟩) (of_decide_eq_true h)); simp only [if_neg hL]) (by rw [wallR, if_pos c_11, if_pos c_25, if_pos ⟨c_29, c_33⟩])
        · refine lv_iload_n hx hb dX7_wall_36 rfl (lv_at hl 3 rfl) ?_
          refine lv_i2l (v := t.toInt64) hx hb dX7_wall_37 rfl ?_
          refine lv_lconst (v := 1) hx hb dX7_wall_38 (by decide) ?_
          refine lv_ldc2 (v := 20) hx hb hown hc_86 dX7_wall_39 ?_
          refine goRI hP hS (va_runS (As := [.long t.toInt64, .long 1, .long 20]) (rest := []) ⟨hx, hb, hml, hown, hts⟩ (kX7_in l D cI cJ t.toInt64 1 20) (va_cwS 3 hts gX7_wall_X7_in rfl rfl rfl kdX7_in.2 ⟨Nat.le_of_ble_eq_true rfl, Nat.le_of_ble_eq_true rfl⟩) (preR hK hN hP [] rfl) rfl rfl hl.1 rfl (lv_room (Nat.le_of_ble_eq_true rfl)) dX7_wall_42 ⟨Nat.zero_le _, Nat.zero_le _⟩) (fun H locs hP hS => ?_)
          refine r_top (x' := zb (1 ≤ t ∧ t ≤ 20)) (zb_iff (in_c (by first | rfl | decide) (by first | rfl | decide))) ?_
          refine r_zne (tgt := 52) hx hb dX7_wall_45 (by decide) (fun c_45 => ?_) (fun c_45 => ?_)
          · refine lv_iconst (v := 0) hx hb dX7_wall_52 (by decide) ?_
            refine lv_istore (lv' := [(4, .int 0), (0, .ref mo), (1, .int x), (2, .int y), (3, .int t)]) hx hb dX7_wall_53 hl (by decide) rfl (fun ls hl => ?_)
            have lp : ∀ (fu : Nat) (k : Nat), (k ≤ sq) → (isWM wa x y k = false) → sq - k < fu → ∀ (ls : Array Slot) (H : Heap) (locs : List Loc), lv_has ls 5 [(0, .ref mo), (1, .int x), (2, .int y), (3, .int t), (4, .int (nI k))] → va_P D vwCl [(mo, .inr (7, moV (nI nn) (nI mm) me mj mw mp mu (zb (ke = true)) bd ml (nI sq) mq fi gu le cs (zb (ba = true)) ov m1 m2 m3 m4 lk (zb (sp = true)) bs bo m5 m6 m7 su sl m8 lo sh)), (mq, .inl (cI, 120, .inl wa))] H → va_D A [(mo, .inr (7, moV (nI nn) (nI mm) me mj mw mp mu (zb (ke = true)) bd ml (nI sq) mq fi gu le cs (zb (ba = true)) ov m1 m2 m3 m4 lk (zb (sp = true)) bs bo m5 m6 m7 su sl m8 lo sh)), (mq, .inl (cI, 120, .inl wa))] → va_S A s.heap H locs → W p l e rmX7_wall s m args below meth c H locs 0 0 Q (F0 m 55 ls []) := by
              intro fu
              induction fu with
              | zero => intro k hk hw0 hf; exact absurd hf (Nat.not_lt_zero _)
              | succ fu ih_lp =>
                intro k hk hw0 hf ls H locs hl hP hD hS
                refine lv_iload hx hb dX7_wall_55 (lv_at hl 4 rfl) ?_
                refine lv_aload_n hx hb dX7_wall_57 rfl (lv_at hl 0 rfl) ?_
                refine va_get (D := D) (ci := 7) (v := .int (nI sq)) (C := RX7) (T := TX7) (N := 34) hx hb hts hi_7 hown hK hP 0 rfl rfl 10 (by decide) hf_96 (fun _ h9 => h9) rfl dX7_wall_58 ?_
                refine r_icmp_ge (tgt := 102) hx hb k sq dX7_wall_61 (by decide) rfl rfl (by omega) (by omega) (fun c_61 => ?_) (fun c_61 => ?_)
                · refine lv_aload_n hx hb dX7_wall_102 rfl (lv_at hl 0 rfl) ?_
                  refine va_get (D := D) (ci := 7) (v := .int (nI sq)) (C := RX7) (T := TX7) (N := 34) hx hb hts hi_7 hown hK hP 0 rfl rfl 10 (by decide) hf_96 (fun _ h9 => h9) rfl dX7_wall_103 ?_
                  refine lv_bipush (v := 40) hx hb dX7_wall_106 (by decide) ?_
                  refine r_icmp_ne (tgt := 115) hx hb sq 40 dX7_wall_108 (by decide) rfl rfl (by omega) (by omega) (fun c_108 => ?_) (fun c_108 => ?_)
                  · refine lv_aload_n hx hb dX7_wall_115 rfl (lv_at hl 0 rfl) ?_
                    refine va_get (D := D) (ci := 7) (v := .ref mq) (C := RX7) (T := TX7) (N := 34) hx hb hts hi_7 hown hK hP 0 rfl rfl 11 (by decide) hf_35 (fun _ h9 => h9) rfl dX7_wall_116 ?_
                    refine lv_iconst (v := 3) hx hb dX7_wall_119 (by decide) ?_
                    refine lv_aload_n hx hb dX7_wall_120 rfl (lv_at hl 0 rfl) ?_
                    refine va_get (D := D) (ci := 7) (v := .int (nI sq)) (C := RX7) (T := TX7) (N := 34) hx hb hts hi_7 hown hK hP 0 rfl rfl 10 (by decide) hf_96 (fun _ h9 => h9) rfl dX7_wall_121 ?_
                    refine lv_imul hx hb dX7_wall_124 ?_
                    refine r_top (x' := nI (3 * sq)) (pk_mul 3 sq) ?_
                    refine lv_iload_n hx hb dX7_wall_125 rfl (lv_at hl 1 rfl) ?_
                    refine r_iast hx hb hK hP hD hS 1 rfl (3 * sq) rfl (by omega) (by omega) dX7_wall_126 (fun H locs hP hD hS => ?_)
                    have hP : va_P D vwCl [(mo, .inr (7, moV (nI nn) (nI mm) me mj mw mp mu (zb (ke = true)) bd ml (nI sq) mq fi gu le cs (zb (ba = true)) ov m1 m2 m3 m4 lk (zb (sp = true)) bs bo m5 m6 m7 su sl m8 lo sh)), (mq, .inl (cI, 120, .inl (upd wa (3 * sq) x)))] H := hP
                    have hD : va_D A [(mo, .inr (7, moV (nI nn) (nI mm) me mj mw mp mu (zb (ke = true)) bd ml (nI sq) mq fi gu le cs (zb (ba = true)) ov m1 m2 m3 m4 lk (zb (sp = true)) bs bo m5 m6 m7 su sl m8 lo sh)), (mq, .inl (cI, 120, .inl (upd wa (3 * sq) x)))] := hD
                    refine lv_aload_n hx hb dX7_wall_127 rfl (lv_at hl 0 rfl) ?_
                    refine va_get (D := D) (ci := 7) (v := .ref mq) (C := RX7) (T := TX7) (N := 34) hx hb hts hi_7 hown hK hP 0 rfl rfl 11 (by decide) hf_35 (fun _ h9 => h9) rfl dX7_wall_128 ?_
                    refine lv_iconst (v := 3) hx hb dX7_wall_131 (by decide) ?_
                    refine lv_aload_n hx hb dX7_wall_132 rfl (lv_at hl 0 rfl) ?_
                    refine va_get (D := D) (ci := 7) (v := .int (nI sq)) (C := RX7) (T := TX7) (N := 34) hx hb hts hi_7 hown hK hP 0 rfl rfl 10 (by decide) hf_96 (fun _ h9 => h9) rfl dX7_wall_133 ?_
                    refine lv_imul hx hb dX7_wall_136 ?_
                    refine r_top (x' := nI (3 * sq)) (pk_mul 3 sq) ?_
                    refine lv_iconst (v := 1) hx hb dX7_wall_137 (by decide) ?_
                    refine lv_iadd hx hb dX7_wall_138 ?_
                    refine r_top (x' := nI ((3 * sq) + 1)) (nI_add (3 * sq) 1) ?_
                    refine lv_iload_n hx hb dX7_wall_139 rfl (lv_at hl 2 rfl) ?_
                    refine r_iast hx hb hK hP hD hS 1 rfl ((3 * sq) + 1) rfl (by omega) (by omega) dX7_wall_140 (fun H locs hP hD hS => ?_)
                    have hP : va_P D vwCl [(mo, .inr (7, moV (nI nn) (nI mm) me mj mw mp mu (zb (ke = true)) bd ml (nI sq) mq fi gu le cs (zb (ba = true)) ov m1 m2 m3 m4 lk (zb (sp = true)) bs bo m5 m6 m7 su sl m8 lo sh)), (mq, .inl (cI, 120, .inl (upd (upd wa (3 * sq) x) ((3 * sq) + 1) y)))] H := hP
                    have hD : va_D A [(mo, .inr (7, moV (nI nn) (nI mm) me mj mw mp mu (zb (ke = true)) bd ml (nI sq) mq fi gu le cs (zb (ba = true)) ov m1 m2 m3 m4 lk (zb (sp = true)) bs bo m5 m6 m7 su sl m8 lo sh)), (mq, .inl (cI, 120, .inl (upd (upd wa (3 * sq) x) ((3 * sq) + 1) y)))] := hD
                    refine lv_aload_n hx hb dX7_wall_141 rfl (lv_at hl 0 rfl) ?_
                    refine va_get (D := D) (ci := 7) (v := .ref mq) (C := RX7) (T := TX7) (N := 34) hx hb hts hi_7 hown hK hP 0 rfl rfl 11 (by decide) hf_35 (fun _ h9 => h9) rfl dX7_wall_142 ?_
                    refine lv_iconst (v := 3) hx hb dX7_wall_145 (by decide) ?_
                    refine lv_aload_n hx hb dX7_wall_146 rfl (lv_at hl 0 rfl) ?_
                    refine va_get (D := D) (ci := 7) (v := .int (nI sq)) (C := RX7) (T := TX7) (N := 34) hx hb hts hi_7 hown hK hP 0 rfl rfl 10 (by decide) hf_96 (fun _ h9 => h9) rfl dX7_wall_147 ?_
                    refine lv_imul hx hb dX7_wall_150 ?_
                    refine r_top (x' := nI (3 * sq)) (pk_mul 3 sq) ?_
                    refine lv_iconst (v := 2) hx hb dX7_wall_151 (by decide) ?_
                    refine lv_iadd hx hb dX7_wall_152 ?_
                    refine r_top (x' := nI ((3 * sq) + 2)) (nI_add (3 * sq) 2) ?_
                    refine lv_iload_n hx hb dX7_wall_153 rfl (lv_at hl 3 rfl) ?_
                    refine r_iast hx hb hK hP hD hS 1 rfl ((3 * sq) + 2) rfl (by omega) (by omega) dX7_wall_154 (fun H locs hP hD hS => ?_)
                    have hP : va_P D vwCl [(mo, .inr (7, moV (nI nn) (nI mm) me mj mw mp mu (zb (ke = true)) bd ml (nI sq) mq fi gu le cs (zb (ba = true)) ov m1 m2 m3 m4 lk (zb (sp = true)) bs bo m5 m6 m7 su sl m8 lo sh)), (mq, .inl (cI, 120, .inl (upd (upd (upd wa (3 * sq) x) ((3 * sq) + 1) y) ((3 * sq) + 2) t)))] H := hP
                    have hD : va_D A [(mo, .inr (7, moV (nI nn) (nI mm) me mj mw mp mu (zb (ke = true)) bd ml (nI sq) mq fi gu le cs (zb (ba = true)) ov m1 m2 m3 m4 lk (zb (sp = true)) bs bo m5 m6 m7 su sl m8 lo sh)), (mq, .inl (cI, 120, .inl (upd (upd (upd wa (3 * sq) x) ((3 * sq) + 1) y) ((3 * sq) + 2) t)))] := hD
                    refine lv_aload_n hx hb dX7_wall_155 rfl (lv_at hl 0 rfl) ?_
                    refine lv_dup hx hb dX7_wall_156 rfl ?_
                    refine va_get (D := D) (ci := 7) (v := .int (nI sq)) (C := RX7) (T := TX7) (N := 34) hx hb hts hi_7 hown hK hP 0 rfl rfl 10 (by decide) hf_96 (fun _ h9 => h9) rfl dX7_wall_157 ?_
                    refine lv_iconst (v := 1) hx hb dX7_wall_160 (by decide) ?_
                    refine lv_iadd hx hb dX7_wall_161 ?_
                    refine r_top (x' := nI (sq + 1)) (nI_add sq 1) ?_
                    refine va_put (D := D) (ci := 7) (v := .int (nI (sq + 1))) (ty := .int) (C := RX7) (T := TX7) (N := 34) hx hb hts hi_7 tyX7 tyX7_ok nmX7 hown hK hP hD hS 0 rfl rfl 10 (by decide) hf_96 (fun _ h9 => h9) rfl (by decide +kernel) rfl rfl (Nat.le_of_ble_eq_true rfl) dX7_wall_162 (fun H locs hP hD hS => ?_)
                    have hP : va_P D vwCl [(mo, .inr (7, moV (nI nn) (nI mm) me mj mw mp mu (zb (ke = true)) bd ml (nI (sq + 1)) mq fi gu le cs (zb (ba = true)) ov m1 m2 m3 m4 lk (zb (sp = true)) bs bo m5 m6 m7 su sl m8 lo sh)), (mq, .inl (cI, 120, .inl (upd (upd (upd wa (3 * sq) x) ((3 * sq) + 1) y) ((3 * sq) + 2) t)))] H := hP
                    have hD : va_D A [(mo, .inr (7, moV (nI nn) (nI mm) me mj mw mp mu (zb (ke = true)) bd ml (nI (sq + 1)) mq fi gu le cs (zb (ba = true)) ov m1 m2 m3 m4 lk (zb (sp = true)) bs bo m5 m6 m7 su sl m8 lo sh)), (mq, .inl (cI, 120, .inl (upd (upd (upd wa (3 * sq) x) ((3 * sq) + 1) y) ((3 * sq) + 2) t)))] := hD
                    refine lv_aload_n hx hb dX7_wall_165 rfl (lv_at hl 0 rfl) ?_
                    refine va_get (D := D) (ci := 7) (v := .int (nI (sq + 1))) (C := RX7) (T := TX7) (N := 34) hx hb hts hi_7 hown hK hP 0 rfl rfl 10 (by decide) hf_96 (fun _ h9 => h9) rfl dX7_wall_166 ?_
                    exact endMI () hx hb hr hlocks hA hQ hS hP dX7_wall_169 (by have hL : wallC wa sq x y t = true := decide_eq_true ⟨c_11, c_25, (by first | exact (fun h => c_29 h.1) | exact (fun h => c_33 h.2)), c_45, (by rw [show sq = k by omega]; exact hw0), c_108⟩; simp only [if_pos hL]) (by rw [wallR, if_pos c_11, if_pos c_25, if_neg (by first | exact (fun h => c_29 h.1) | exact (fun h => c_33 h.2)), if_pos c_45, if_neg (show ¬ isWM wa x y sq = true by rw [show sq = k by omega, hw0]; exact Bool.false_ne_true), if_neg c_108])
                  · refine lv_sipush (v := (-1004)) hx hb dX7_wall_111 (by decide) ?_
                    exact endMI () hx hb hr hlocks hA hQ hS hP dX7_wall_114 (by have hL : ¬ (wallC wa sq x y t = true) := (fun h => (fun h => h.2.2.2.2.2 c_108) (of_decide_eq_true h)); simp only [if_neg hL]) (by rw [wallR, if_pos c_11, if_pos c_25, if_neg (by first | exact (fun h => c_29 h.1) | exact (fun h => c_33 h.2)), if_pos c_45, if_neg (show ¬ isWM wa x y sq = true by rw [show sq = k by omega, hw0]; exact Bool.false_ne_true), if_pos c_108])
                · refine lv_aload_n hx hb dX7_wall_64 rfl (lv_at hl 0 rfl) ?_
                  refine va_get (D := D) (ci := 7) (v := .ref mq) (C := RX7) (T := TX7) (N := 34) hx hb hts hi_7 hown hK hP 0 rfl rfl 11 (by decide) hf_35 (fun _ h9 => h9) rfl dX7_wall_65 ?_
                  refine lv_iconst (v := 3) hx hb dX7_wall_68 (by decide) ?_
                  refine lv_iload hx hb dX7_wall_69 (lv_at hl 4 rfl) ?_
                  refine lv_imul hx hb dX7_wall_71 ?_
                  refine r_top (x' := nI (3 * k)) (pk_mul 3 k) ?_
                  refine r_iald hx hb hK hP 1 rfl (3 * k) rfl (by omega) (by omega) dX7_wall_72 ?_
                  refine lv_iload_n hx hb dX7_wall_73 rfl (lv_at hl 1 rfl) ?_
                  refine lv_icmp_ne (tgt := 96) hx hb dX7_wall_74 (by decide) (fun c_74 => ?_) (fun c_74 => ?_)
                  · refine r_iinc (lv' := [(4, .int (nI (k + 1))), (0, .ref mo), (1, .int x), (2, .int y), (3, .int t)]) hx hb 4 k dX7_wall_96 hl rfl (by decide) rfl (fun ls hl => ?_)
                    refine lv_goto (tgt := 55) hx hb dX7_wall_99 (by decide) ?_
                    exact ih_lp (k + 1) (by omega) (isWM_f (fun h => c_74 h.1) hw0) (by omega) ls _ _ (lv_sub hl [1, 2, 3, 4, 0] rfl) hP hD hS
                  · refine lv_aload_n hx hb dX7_wall_77 rfl (lv_at hl 0 rfl) ?_
                    refine va_get (D := D) (ci := 7) (v := .ref mq) (C := RX7) (T := TX7) (N := 34) hx hb hts hi_7 hown hK hP 0 rfl rfl 11 (by decide) hf_35 (fun _ h9 => h9) rfl dX7_wall_78 ?_
                    refine lv_iconst (v := 3) hx hb dX7_wall_81 (by decide) ?_
                    refine lv_iload hx hb dX7_wall_82 (lv_at hl 4 rfl) ?_
                    refine lv_imul hx hb dX7_wall_84 ?_
                    refine r_top (x' := nI (3 * k)) (pk_mul 3 k) ?_
                    refine lv_iconst (v := 1) hx hb dX7_wall_85 (by decide) ?_
                    refine lv_iadd hx hb dX7_wall_86 ?_
                    refine r_top (x' := nI ((3 * k) + 1)) (nI_add (3 * k) 1) ?_
                    refine r_iald hx hb hK hP 1 rfl ((3 * k) + 1) rfl (by omega) (by omega) dX7_wall_87 ?_
                    refine lv_iload_n hx hb dX7_wall_88 rfl (lv_at hl 2 rfl) ?_
                    refine lv_icmp_ne (tgt := 96) hx hb dX7_wall_89 (by decide) (fun c_89 => ?_) (fun c_89 => ?_)
                    · refine r_iinc (lv' := [(4, .int (nI (k + 1))), (0, .ref mo), (1, .int x), (2, .int y), (3, .int t)]) hx hb 4 k dX7_wall_96 hl rfl (by decide) rfl (fun ls hl => ?_)
                      refine lv_goto (tgt := 55) hx hb dX7_wall_99 (by decide) ?_
                      exact ih_lp (k + 1) (by omega) (isWM_f (fun h => c_89 h.2) hw0) (by omega) ls _ _ (lv_sub hl [1, 2, 3, 4, 0] rfl) hP hD hS
                    · refine lv_sipush (v := (-1003)) hx hb dX7_wall_92 (by decide) ?_
                      exact endMI () hx hb hr hlocks hA hQ hS hP dX7_wall_95 (by have hL : ¬ (wallC wa sq x y t = true) := (fun h => (fun h => absurd (show isWM wa x y sq = true by rw [show sq = (k + 1) + (sq - (k + 1)) by omega]; exact isWM_mono (isWM_t ⟨c_74, c_89⟩) _) (by rw [h.2.2.2.2.1]; exact Bool.false_ne_true)) (of_decide_eq_true h)); simp only [if_neg hL]) (by rw [wallR, if_pos c_11, if_pos c_25, if_neg (by first | exact (fun h => c_29 h.1) | exact (fun h => c_33 h.2)), if_pos c_45, if_pos (show isWM wa x y sq = true by rw [show sq = (k + 1) + (sq - (k + 1)) by omega]; exact isWM_mono (isWM_t ⟨c_74, c_89⟩) _)])
            exact lp _ 0 (by omega) rfl (Nat.lt_succ_self _) ls _ _ (lv_sub hl [1, 2, 3, 4, 0] rfl) hP hD hS
          · refine lv_sipush (v := (-1002)) hx hb dX7_wall_48 (by decide) ?_
            exact endMI () hx hb hr hlocks hA hQ hS hP dX7_wall_51 (by have hL : ¬ (wallC wa sq x y t = true) := (fun h => (fun h => c_45 h.2.2.2.1) (of_decide_eq_true h)); simp only [if_neg hL]) (by rw [wallR, if_pos c_11, if_pos c_25, if_neg (fun h => c_33 h.2), if_neg c_45])
def rmX7_raze : Room := { frames := 0, cells := 0, slots := 0, locals := 0 }
theorem kdX7_raze : yX7_raze.cls = RX7 ∧ yX7_raze.cls ≠ "java/lang/invoke/MethodHandle" ∧ yX7_raze.cls ≠ "java/lang/invoke/VarHandle" ∧ (parseMethodDescriptor yX7_raze.desc).map (fun d => d.parameters.length) = some 0 := ⟨rfl, by decide +kernel, by decide +kernel, by decide +kernel⟩
set_option maxRecDepth 100000 in
set_option maxHeartbeats 1000000 in
theorem kX7_raze (l : Launch) (D : va_G) (cI cJ : ClassId) (mo : Nat) (nn : Nat) (mm : Nat) (me : Nat) (mj : Nat) (mw : Nat) (mp : Nat) (mu : Nat) (ke : Bool) (bd : Int32) (ml : Nat) (sq : Nat) (mq : Nat) (fi : Int32) (gu : Int32) (le : Int32) (cs : Int32) (ba : Bool) (ov : Int32) (m1 : Nat) (m2 : Nat) (m3 : Nat) (m4 : Nat) (lk : Int32) (sp : Bool) (bs : Int32) (bo : Int32) (m5 : Nat) (m6 : Nat) (m7 : Nat) (su : Int32) (sl : Int32) (m8 : Nat) (lo : Int32) (sh : Int32)  : Met l yX7_raze wsX7_raze rmX7_raze (mPre D cI cJ [.ref mo] [(mo, .inr (7, moV (nI nn) (nI mm) me mj mw mp mu (zb (ke = true)) bd ml (nI sq) mq fi gu le cs (zb (ba = true)) ov m1 m2 m3 m4 lk (zb (sp = true)) bs bo m5 m6 m7 su sl m8 lo sh))]) (mQi D (fun (r : Int32) (_ : Unit) => r = (nI sq)) (fun (_ : Unit) => [(mo, .inr (7, moV (nI nn) (nI mm) me mj mw mp mu (zb (ke = true)) bd ml (nI 0) mq fi gu le cs (zb (ba = true)) ov m1 m2 m3 m4 lk (zb (sp = true)) bs bo m5 m6 m7 su sl m8 lo sh))]) [(mo, .inr (7, moV (nI nn) (nI mm) me mj mw mp mu (zb (ke = true)) bd ml (nI sq) mq fi gu le cs (zb (ba = true)) ov m1 m2 m3 m4 lk (zb (sp = true)) bs bo m5 m6 m7 su sl m8 lo sh))]) 0 0 (mA [(mo, .inr (7, moV (nI nn) (nI mm) me mj mw mp mu (zb (ke = true)) bd ml (nI sq) mq fi gu le cs (zb (ba = true)) ov m1 m2 m3 m4 lk (zb (sp = true)) bs bo m5 m6 m7 su sl m8 lo sh))]) := by
  refine startM (cc := cX7_raze) (maxL := 2) (ret := (some .int)) (by decide) rfl (Nat.le_of_ble_eq_true rfl) ?_
  intro p e s m args below meth c ls Q A hA hQ hx hb hr hlocks hml hown hts hK hN hP hD hl hin
  have hown : s.vm.findClass RX7 = some m.cls := hown
  have hi_7 : ∀ w ∈ wsX70, w ∈ wsX7_raze := by decide +kernel
  have hf_96 := hts (.fieldLink RX7 96 "FireNetsModel" "squares" "I") (by decide +kernel)
  have hS : va_S A s.heap s.heap [] := va_S.rf
  have hl : lv_has ls 2 [(0, .ref mo)] := hl
  have hP : va_P D vwCl [(mo, .inr (7, moV (nI nn) (nI mm) me mj mw mp mu (zb (ke = true)) bd ml (nI sq) mq fi gu le cs (zb (ba = true)) ov m1 m2 m3 m4 lk (zb (sp = true)) bs bo m5 m6 m7 su sl m8 lo sh))] s.heap := hP
  refine lv_aload_n hx hb dX7_raze_0 rfl (lv_at hl 0 rfl) ?_
  refine va_get (D := D) (ci := 7) (v := .int (nI sq)) (C := RX7) (T := TX7) (N := 34) hx hb hts hi_7 hown hK hP 0 rfl rfl 10 (by decide) hf_96 (fun _ h9 => h9) rfl dX7_raze_1 ?_
  refine lv_istore_n (lv' := [(1, .int (nI sq)), (0, .ref mo)]) hx hb dX7_raze_4 rfl hl (by decide) rfl (fun ls hl => ?_)
  refine lv_aload_n hx hb dX7_raze_5 rfl (lv_at hl 1 rfl) ?_
  refine lv_iconst (v := 0) hx hb dX7_raze_6 (by decide) ?_
  refine va_put (D := D) (ci := 7) (v := .int 0) (ty := .int) (C := RX7) (T := TX7) (N := 34) hx hb hts hi_7 tyX7 tyX7_ok nmX7 hown hK hP hD hS 0 rfl rfl 10 (by decide) hf_96 (fun _ h9 => h9) rfl (by decide +kernel) rfl rfl (Nat.le_of_ble_eq_true rfl) dX7_raze_7 (fun H locs hP hD hS => ?_)
  have hP : va_P D vwCl [(mo, .inr (7, moV (nI nn) (nI mm) me mj mw mp mu (zb (ke = true)) bd ml 0 mq fi gu le cs (zb (ba = true)) ov m1 m2 m3 m4 lk (zb (sp = true)) bs bo m5 m6 m7 su sl m8 lo sh))] H := hP
  have hD : va_D A [(mo, .inr (7, moV (nI nn) (nI mm) me mj mw mp mu (zb (ke = true)) bd ml 0 mq fi gu le cs (zb (ba = true)) ov m1 m2 m3 m4 lk (zb (sp = true)) bs bo m5 m6 m7 su sl m8 lo sh))] := hD
  refine lv_iload_n hx hb dX7_raze_10 rfl (lv_at hl 0 rfl) ?_
  exact endMI () hx hb hr hlocks hA hQ hS hP dX7_raze_11 rfl rfl
def rmX7_square : Room := { frames := 0, cells := 0, slots := 0, locals := 0 }
theorem kdX7_square : yX7_square.cls = RX7 ∧ yX7_square.cls ≠ "java/lang/invoke/MethodHandle" ∧ yX7_square.cls ≠ "java/lang/invoke/VarHandle" ∧ (parseMethodDescriptor yX7_square.desc).map (fun d => d.parameters.length) = some 2 := ⟨rfl, by decide +kernel, by decide +kernel, by decide +kernel⟩
set_option maxRecDepth 100000 in
set_option maxHeartbeats 1000000 in
theorem kX7_square (l : Launch) (D : va_G) (cI cJ : ClassId) (x y : Int32)  : Met l yX7_square wsX7_square rmX7_square (rPre D cI cJ [.int x, .int y] []) (qRI (61 * (y + 30) + x + 30)) 0 0 nA := by
  refine startR (cc := cX7_square) (maxL := 2) (ret := (some .int)) (by decide) rfl (Nat.le_of_ble_eq_true rfl) ?_
  intro p e s m args below meth c ls Q hQ hx hb hr hlocks hml hown hts hK hN hP hl hin
  have hown : s.vm.findClass RX7 = some m.cls := hown
  have hS : va_S nA s.heap s.heap [] := va_S.rf
  have hl : lv_has ls 2 [(0, .int x), (1, .int y)] := hl
  have hP : va_P D vwCl [] s.heap := hP
  refine lv_bipush (v := 61) hx hb dX7_square_0 (by decide) ?_
  refine lv_iload_n hx hb dX7_square_2 rfl (lv_at hl 1 rfl) ?_
  refine lv_bipush (v := 30) hx hb dX7_square_3 (by decide) ?_
  refine lv_iadd hx hb dX7_square_5 ?_
  refine lv_imul hx hb dX7_square_6 ?_
  refine lv_iload_n hx hb dX7_square_7 rfl (lv_at hl 0 rfl) ?_
  refine lv_iadd hx hb dX7_square_8 ?_
  refine lv_bipush (v := 30) hx hb dX7_square_9 (by decide) ?_
  refine lv_iadd hx hb dX7_square_11 ?_
  exact endRI hx hb hr hlocks hQ hS dX7_square_12 rfl
def rmX7_size : Room := { frames := 0, cells := 0, slots := 0, locals := 0 }
theorem kdX7_size : yX7_size.cls = RX7 ∧ yX7_size.cls ≠ "java/lang/invoke/MethodHandle" ∧ yX7_size.cls ≠ "java/lang/invoke/VarHandle" ∧ (parseMethodDescriptor yX7_size.desc).map (fun d => d.parameters.length) = some 1 := ⟨rfl, by decide +kernel, by decide +kernel, by decide +kernel⟩
set_option maxRecDepth 100000 in
set_option maxHeartbeats 1000000 in
theorem kX7_size (l : Launch) (D : va_G) (cI cJ : ClassId) (v : Int32)  : Met l yX7_size wsX7_size rmX7_size (rPre D cI cJ [.int v] []) (qRI (sizeI v)) 0 0 nA := by
  refine startR (cc := cX7_size) (maxL := 1) (ret := (some .int)) (by decide) rfl (Nat.le_of_ble_eq_true rfl) ?_
  intro p e s m args below meth c ls Q hQ hx hb hr hlocks hml hown hts hK hN hP hl hin
  have hown : s.vm.findClass RX7 = some m.cls := hown
  have hS : va_S nA s.heap s.heap [] := va_S.rf
  have hl : lv_has ls 1 [(0, .int v)] := hl
  have hP : va_P D vwCl [] s.heap := hP
  refine lv_iload_n hx hb dX7_size_0 rfl (lv_at hl 0 rfl) ?_
  refine lv_if_ge (tgt := 9) hx hb dX7_size_1 (by decide) (fun c_1 => ?_) (fun c_1 => ?_)
  · refine lv_iload_n hx hb dX7_size_9 rfl (lv_at hl 0 rfl) ?_
    exact endRI hx hb hr hlocks hQ hS dX7_size_10 (by rw [sizeI, if_pos c_1])
  · refine lv_iload_n hx hb dX7_size_4 rfl (lv_at hl 0 rfl) ?_
    refine lv_ineg hx hb dX7_size_5 ?_
    refine lv_goto (tgt := 10) hx hb dX7_size_6 (by decide) ?_
    exact endRI hx hb hr hlocks hQ hS dX7_size_10 (by rw [sizeI, if_neg c_1])
def rmX7_build : Room := { frames := 1, cells := 0, slots := 0, locals := 21 }
theorem kdX7_build : yX7_build.cls = RX7 ∧ yX7_build.cls ≠ "java/lang/invoke/MethodHandle" ∧ yX7_build.cls ≠ "java/lang/invoke/VarHandle" ∧ (parseMethodDescriptor yX7_build.desc).map (fun d => d.parameters.length) = some 1 := ⟨rfl, by decide +kernel, by decide +kernel, by decide +kernel⟩
set_option maxRecDepth 100000 in
set_option maxHeartbeats 1000000 in
theorem kX7_build (l : Launch) (D : va_G) (cI cJ : ClassId) (mo : Nat) (nn : Nat) (mm : Nat) (me : Nat) (mj : Nat) (mw : Nat) (mp : Nat) (mu : Nat) (ke : Bool) (bd : Int32) (ml : Nat) (sq : Nat) (mq : Nat) (fi : Int32) (gu : Int32) (le : Int32) (cs : Int32) (ba : Bool) (ov : Int32) (m1 : Nat) (m2 : Nat) (m3 : Nat) (m4 : Nat) (lk : Int32) (sp : Bool) (bs : Int32) (bo : Int32) (m5 : Nat) (m6 : Nat) (m7 : Nat) (su : Int32) (sl : Int32) (m8 : Nat) (lo : Int32) (sh : Int32) (wa : Row) (bb : Row) (t : Nat) (hsq : sq ≤ 40) (hW : WallOK wa sq) : Met l yX7_build wsX7_build rmX7_build (mPre D cI cJ [.ref mo, .int (nI t)] [(mo, .inr (7, moV (nI nn) (nI mm) me mj mw mp mu (zb (ke = true)) bd ml (nI sq) mq fi gu le cs (zb (ba = true)) ov m1 m2 m3 m4 lk (zb (sp = true)) bs bo m5 m6 m7 su sl m8 lo sh)), (mq, .inl (cI, 120, .inl wa)), (m8, .inl (cI, 3721, .inl bb))]) (mQv D (fun (_ : Unit) => True) (fun (_ : Unit) => [(mo, .inr (7, moV (nI nn) (nI mm) me mj mw mp mu (zb (ke = true)) bd ml (nI sq) mq fi gu le cs (zb (ba = true)) ov m1 m2 m3 m4 lk (zb (sp = true)) bs bo m5 m6 m7 su sl m8 ((bldA wa (nI t) (bb, lo) sq).2) sh)), (mq, .inl (cI, 120, .inl wa)), (m8, .inl (cI, 3721, .inl ((bldA wa (nI t) (bb, lo) sq).1)))]) [(mo, .inr (7, moV (nI nn) (nI mm) me mj mw mp mu (zb (ke = true)) bd ml (nI sq) mq fi gu le cs (zb (ba = true)) ov m1 m2 m3 m4 lk (zb (sp = true)) bs bo m5 m6 m7 su sl m8 lo sh)), (mq, .inl (cI, 120, .inl wa)), (m8, .inl (cI, 3721, .inl bb))]) 0 0 (mA [(mo, .inr (7, moV (nI nn) (nI mm) me mj mw mp mu (zb (ke = true)) bd ml (nI sq) mq fi gu le cs (zb (ba = true)) ov m1 m2 m3 m4 lk (zb (sp = true)) bs bo m5 m6 m7 su sl m8 lo sh)), (mq, .inl (cI, 120, .inl wa)), (m8, .inl (cI, 3721, .inl bb))]) := by
  refine startM (cc := cX7_build) (maxL := 4) (ret := none) (by decide) rfl (Nat.le_of_ble_eq_true rfl) ?_
  intro p e s m args below meth c ls Q A hA hQ hx hb hr hlocks hml hown hts hK hN hP hD hl hin
  have hown : s.vm.findClass RX7 = some m.cls := hown
  have hi_7 : ∀ w ∈ wsX70, w ∈ wsX7_build := by decide +kernel
  have hf_35 := hts (.fieldLink RX7 35 "FireNetsModel" "wall" "[I") (by decide +kernel)
  have hf_59 := hts (.fieldLink RX7 59 "FireNetsModel" "board" "[I") (by decide +kernel)
  have hf_96 := hts (.fieldLink RX7 96 "FireNetsModel" "squares" "I") (by decide +kernel)
  have hf_239 := hts (.fieldLink RX7 239 "FireNetsModel" "lost" "I") (by decide +kernel)
  have hS : va_S A s.heap s.heap [] := va_S.rf
  have hl : lv_has ls 4 [(0, .ref mo), (1, .int (nI t))] := hl
  have hP : va_P D vwCl [(mo, .inr (7, moV (nI nn) (nI mm) me mj mw mp mu (zb (ke = true)) bd ml (nI sq) mq fi gu le cs (zb (ba = true)) ov m1 m2 m3 m4 lk (zb (sp = true)) bs bo m5 m6 m7 su sl m8 lo sh)), (mq, .inl (cI, 120, .inl wa)), (m8, .inl (cI, 3721, .inl bb))] s.heap := hP
  refine lv_iconst (v := 0) hx hb dX7_build_0 (by decide) ?_
  refine lv_istore_n (lv' := [(2, .int 0), (0, .ref mo), (1, .int (nI t))]) hx hb dX7_build_1 rfl hl (by decide) rfl (fun ls hl => ?_)
  have lp : ∀ (fu : Nat) (k : Nat), (k ≤ sq) → sq - k < fu → ∀ (ls : Array Slot) (H : Heap) (locs : List Loc), lv_has ls 4 [(0, .ref mo), (1, .int (nI t)), (2, .int (nI k))] → va_P D vwCl [(mo, .inr (7, moV (nI nn) (nI mm) me mj mw mp mu (zb (ke = true)) bd ml (nI sq) mq fi gu le cs (zb (ba = true)) ov m1 m2 m3 m4 lk (zb (sp = true)) bs bo m5 m6 m7 su sl m8 ((bldA wa (nI t) (bb, lo) k).2) sh)), (mq, .inl (cI, 120, .inl wa)), (m8, .inl (cI, 3721, .inl ((bldA wa (nI t) (bb, lo) k).1)))] H → va_D A [(mo, .inr (7, moV (nI nn) (nI mm) me mj mw mp mu (zb (ke = true)) bd ml (nI sq) mq fi gu le cs (zb (ba = true)) ov m1 m2 m3 m4 lk (zb (sp = true)) bs bo m5 m6 m7 su sl m8 ((bldA wa (nI t) (bb, lo) k).2) sh)), (mq, .inl (cI, 120, .inl wa)), (m8, .inl (cI, 3721, .inl ((bldA wa (nI t) (bb, lo) k).1)))] → va_S A s.heap H locs → W p l e rmX7_build s m args below meth c H locs 0 0 Q (F0 m 2 ls []) := by
    intro fu
    induction fu with
    | zero => intro k hk hf; exact absurd hf (Nat.not_lt_zero _)
    | succ fu ih_lp =>
      intro k hk hf ls H locs hl hP hD hS
      refine lv_iload_n hx hb dX7_build_2 rfl (lv_at hl 2 rfl) ?_
      refine lv_aload_n hx hb dX7_build_3 rfl (lv_at hl 0 rfl) ?_
      refine va_get (D := D) (ci := 7) (v := .int (nI sq)) (C := RX7) (T := TX7) (N := 34) hx hb hts hi_7 hown hK hP 0 rfl rfl 10 (by decide) hf_96 (fun _ h9 => h9) rfl dX7_build_4 ?_
      refine r_icmp_ge (tgt := 97) hx hb k sq dX7_build_7 (by decide) rfl rfl (by omega) (by omega) (fun c_7 => ?_) (fun c_7 => ?_)
      · exact endMV () hx hb hr hlocks hA hQ hS hP dX7_build_97 (by rw [show k = sq by omega]) trivial
      · refine lv_aload_n hx hb dX7_build_10 rfl (lv_at hl 0 rfl) ?_
        refine va_get (D := D) (ci := 7) (v := .ref mq) (C := RX7) (T := TX7) (N := 34) hx hb hts hi_7 hown hK hP 0 rfl rfl 11 (by decide) hf_35 (fun _ h9 => h9) rfl dX7_build_11 ?_
        refine lv_iconst (v := 3) hx hb dX7_build_14 (by decide) ?_
        refine lv_iload_n hx hb dX7_build_15 rfl (lv_at hl 2 rfl) ?_
        refine lv_imul hx hb dX7_build_16 ?_
        refine r_top (x' := nI (3 * k)) (pk_mul 3 k) ?_
        refine lv_iconst (v := 2) hx hb dX7_build_17 (by decide) ?_
        refine lv_iadd hx hb dX7_build_18 ?_
        refine r_top (x' := nI ((3 * k) + 2)) (nI_add (3 * k) 2) ?_
        refine r_iald hx hb hK hP 1 rfl ((3 * k) + 2) rfl (by omega) (by omega) dX7_build_19 ?_
        refine lv_iload_n hx hb dX7_build_20 rfl (lv_at hl 1 rfl) ?_
        refine lv_icmp_ne (tgt := 91) hx hb dX7_build_21 (by decide) (fun c_21 => ?_) (fun c_21 => ?_)
        · refine r_iinc (lv' := [(2, .int (nI (k + 1))), (0, .ref mo), (1, .int (nI t))]) hx hb 2 k dX7_build_91 hl rfl (by decide) rfl (fun ls hl => ?_)
          refine lv_goto (tgt := 2) hx hb dX7_build_94 (by decide) ?_
          exact ih_lp (k + 1) (by omega) (by omega) ls _ _ (lv_sub hl [1, 2, 0] rfl) (by rw [bldA, if_neg c_21]; exact hP) (by rw [bldA, if_neg c_21]; exact hD) hS
        · refine lv_aload_n hx hb dX7_build_24 rfl (lv_at hl 0 rfl) ?_
          refine va_get (D := D) (ci := 7) (v := .ref mq) (C := RX7) (T := TX7) (N := 34) hx hb hts hi_7 hown hK hP 0 rfl rfl 11 (by decide) hf_35 (fun _ h9 => h9) rfl dX7_build_25 ?_
          refine lv_iconst (v := 3) hx hb dX7_build_28 (by decide) ?_
          refine lv_iload_n hx hb dX7_build_29 rfl (lv_at hl 2 rfl) ?_
          refine lv_imul hx hb dX7_build_30 ?_
          refine r_top (x' := nI (3 * k)) (pk_mul 3 k) ?_
          refine r_iald hx hb hK hP 1 rfl (3 * k) rfl (by omega) (by omega) dX7_build_31 ?_
          refine lv_aload_n hx hb dX7_build_32 rfl (lv_at hl 0 rfl) ?_
          refine va_get (D := D) (ci := 7) (v := .ref mq) (C := RX7) (T := TX7) (N := 34) hx hb hts hi_7 hown hK hP 0 rfl rfl 11 (by decide) hf_35 (fun _ h9 => h9) rfl dX7_build_33 ?_
          refine lv_iconst (v := 3) hx hb dX7_build_36 (by decide) ?_
          refine lv_iload_n hx hb dX7_build_37 rfl (lv_at hl 2 rfl) ?_
          refine lv_imul hx hb dX7_build_38 ?_
          refine r_top (x' := nI (3 * k)) (pk_mul 3 k) ?_
          refine lv_iconst (v := 1) hx hb dX7_build_39 (by decide) ?_
          refine lv_iadd hx hb dX7_build_40 ?_
          refine r_top (x' := nI ((3 * k) + 1)) (nI_add (3 * k) 1) ?_
          refine r_iald hx hb hK hP 1 rfl ((3 * k) + 1) rfl (by omega) (by omega) dX7_build_41 ?_
          refine goRI hP hS (va_runS (As := [.int (wa (3 * k)), .int (wa ((3 * k) + 1))]) (rest := []) ⟨hx, hb, hml, hown, hts⟩ (kX7_square l D cI cJ (wa (3 * k)) (wa ((3 * k) + 1))) (va_cwS 2 hts gX7_build_X7_square rfl rfl rfl kdX7_square.2 ⟨Nat.le_of_ble_eq_true rfl, Nat.le_of_ble_eq_true rfl⟩) (preR hK hN hP [] rfl) rfl rfl hl.1 rfl (lv_room (Nat.le_of_ble_eq_true rfl)) dX7_build_42 ⟨Nat.zero_le _, Nat.zero_le _⟩) (fun H locs hP hS => ?_)
          obtain ⟨hq1, hq2⟩ := hW k (by omega)
          refine lv_istore_n (lv' := [(3, .int (61 * ((wa ((3 * k) + 1)) + 30) + (wa (3 * k)) + 30)), (0, .ref mo), (1, .int (nI t)), (2, .int (nI k))]) hx hb dX7_build_45 rfl hl (by decide) rfl (fun ls hl => ?_)
          refine lv_aload_n hx hb dX7_build_46 rfl (lv_at hl 1 rfl) ?_
          refine lv_dup hx hb dX7_build_47 rfl ?_
          refine va_get (D := D) (ci := 7) (v := .int ((bldA wa (nI t) (bb, lo) k).2)) (C := RX7) (T := TX7) (N := 34) hx hb hts hi_7 hown hK hP 0 rfl rfl 32 (by decide) hf_239 (fun _ h9 => h9) rfl dX7_build_48 ?_
          refine lv_aload_n hx hb dX7_build_51 rfl (lv_at hl 1 rfl) ?_
          refine va_get (D := D) (ci := 7) (v := .ref m8) (C := RX7) (T := TX7) (N := 34) hx hb hts hi_7 hown hK hP 0 rfl rfl 31 (by decide) hf_59 (fun _ h9 => h9) rfl dX7_build_52 ?_
          refine lv_iload_n hx hb dX7_build_55 rfl (lv_at hl 0 rfl) ?_
          refine r_iald hx hb hK hP 2 rfl (sqM wa k) hq1 hq2 (Nat.lt_trans hq2 (by decide)) dX7_build_56 ?_
          refine lv_iconst (v := 1) hx hb dX7_build_57 (by decide) ?_
          refine lv_icmp_ne (tgt := 65) hx hb dX7_build_58 (by decide) (fun c_58 => ?_) (fun c_58 => ?_)
          · refine lv_iconst (v := 0) hx hb dX7_build_65 (by decide) ?_
            refine lv_iadd hx hb dX7_build_66 ?_
            refine va_put (D := D) (ci := 7) (v := .int (((bldA wa (nI t) (bb, lo) k).2) + 0)) (ty := .int) (C := RX7) (T := TX7) (N := 34) hx hb hts hi_7 tyX7 tyX7_ok nmX7 hown hK hP hD hS 0 rfl rfl 32 (by decide) hf_239 (fun _ h9 => h9) rfl (by decide +kernel) rfl rfl (Nat.le_of_ble_eq_true rfl) dX7_build_67 (fun H locs hP hD hS => ?_)
            have hP : va_P D vwCl [(mo, .inr (7, moV (nI nn) (nI mm) me mj mw mp mu (zb (ke = true)) bd ml (nI sq) mq fi gu le cs (zb (ba = true)) ov m1 m2 m3 m4 lk (zb (sp = true)) bs bo m5 m6 m7 su sl m8 (((bldA wa (nI t) (bb, lo) k).2) + 0) sh)), (mq, .inl (cI, 120, .inl wa)), (m8, .inl (cI, 3721, .inl ((bldA wa (nI t) (bb, lo) k).1)))] H := hP
            have hD : va_D A [(mo, .inr (7, moV (nI nn) (nI mm) me mj mw mp mu (zb (ke = true)) bd ml (nI sq) mq fi gu le cs (zb (ba = true)) ov m1 m2 m3 m4 lk (zb (sp = true)) bs bo m5 m6 m7 su sl m8 (((bldA wa (nI t) (bb, lo) k).2) + 0) sh)), (mq, .inl (cI, 120, .inl wa)), (m8, .inl (cI, 3721, .inl ((bldA wa (nI t) (bb, lo) k).1)))] := hD
            refine lv_aload_n hx hb dX7_build_70 rfl (lv_at hl 1 rfl) ?_
            refine va_get (D := D) (ci := 7) (v := .ref m8) (C := RX7) (T := TX7) (N := 34) hx hb hts hi_7 hown hK hP 0 rfl rfl 31 (by decide) hf_59 (fun _ h9 => h9) rfl dX7_build_71 ?_
            refine lv_iload_n hx hb dX7_build_74 rfl (lv_at hl 0 rfl) ?_
            refine lv_aload_n hx hb dX7_build_75 rfl (lv_at hl 1 rfl) ?_
            refine va_get (D := D) (ci := 7) (v := .ref m8) (C := RX7) (T := TX7) (N := 34) hx hb hts hi_7 hown hK hP 0 rfl rfl 31 (by decide) hf_59 (fun _ h9 => h9) rfl dX7_build_76 ?_
            refine lv_iload_n hx hb dX7_build_79 rfl (lv_at hl 0 rfl) ?_
            refine r_iald hx hb hK hP 2 rfl (sqM wa k) hq1 hq2 (Nat.lt_trans hq2 (by decide)) dX7_build_80 ?_
            refine lv_iconst (v := 1) hx hb dX7_build_81 (by decide) ?_
            refine lv_icmp_ne (tgt := 89) hx hb dX7_build_82 (by decide) (fun c_82 => ?_) (fun c_82 => ?_)
            · refine lv_iconst (v := 2) hx hb dX7_build_89 (by decide) ?_
              refine r_iast hx hb hK hP hD hS 2 rfl (sqM wa k) hq1 hq2 (Nat.lt_trans hq2 (by decide)) dX7_build_90 (fun H locs hP hD hS => ?_)
              have hP : va_P D vwCl [(mo, .inr (7, moV (nI nn) (nI mm) me mj mw mp mu (zb (ke = true)) bd ml (nI sq) mq fi gu le cs (zb (ba = true)) ov m1 m2 m3 m4 lk (zb (sp = true)) bs bo m5 m6 m7 su sl m8 (((bldA wa (nI t) (bb, lo) k).2) + 0) sh)), (mq, .inl (cI, 120, .inl wa)), (m8, .inl (cI, 3721, .inl (upd ((bldA wa (nI t) (bb, lo) k).1) (sqM wa k) 2)))] H := hP
              have hD : va_D A [(mo, .inr (7, moV (nI nn) (nI mm) me mj mw mp mu (zb (ke = true)) bd ml (nI sq) mq fi gu le cs (zb (ba = true)) ov m1 m2 m3 m4 lk (zb (sp = true)) bs bo m5 m6 m7 su sl m8 (((bldA wa (nI t) (bb, lo) k).2) + 0) sh)), (mq, .inl (cI, 120, .inl wa)), (m8, .inl (cI, 3721, .inl (upd ((bldA wa (nI t) (bb, lo) k).1) (sqM wa k) 2)))] := hD
              refine r_iinc (lv' := [(2, .int (nI (k + 1))), (3, .int (61 * ((wa ((3 * k) + 1)) + 30) + (wa (3 * k)) + 30)), (0, .ref mo), (1, .int (nI t))]) hx hb 3 k dX7_build_91 hl rfl (by decide) rfl (fun ls hl => ?_)
              refine lv_goto (tgt := 2) hx hb dX7_build_94 (by decide) ?_
              exact ih_lp (k + 1) (by omega) (by omega) ls _ _ (lv_sub hl [2, 3, 0] rfl) (by rw [bldA, if_pos c_21, bldS, if_neg c_58]; exact hP) (by rw [bldA, if_pos c_21, bldS, if_neg c_58]; exact hD) hS
            · exact absurd c_82 c_58
          · refine lv_iconst (v := 1) hx hb dX7_build_61 (by decide) ?_
            refine lv_goto (tgt := 66) hx hb dX7_build_62 (by decide) ?_
            refine lv_iadd hx hb dX7_build_66 ?_
            refine va_put (D := D) (ci := 7) (v := .int (((bldA wa (nI t) (bb, lo) k).2) + 1)) (ty := .int) (C := RX7) (T := TX7) (N := 34) hx hb hts hi_7 tyX7 tyX7_ok nmX7 hown hK hP hD hS 0 rfl rfl 32 (by decide) hf_239 (fun _ h9 => h9) rfl (by decide +kernel) rfl rfl (Nat.le_of_ble_eq_true rfl) dX7_build_67 (fun H locs hP hD hS => ?_)
            have hP : va_P D vwCl [(mo, .inr (7, moV (nI nn) (nI mm) me mj mw mp mu (zb (ke = true)) bd ml (nI sq) mq fi gu le cs (zb (ba = true)) ov m1 m2 m3 m4 lk (zb (sp = true)) bs bo m5 m6 m7 su sl m8 (((bldA wa (nI t) (bb, lo) k).2) + 1) sh)), (mq, .inl (cI, 120, .inl wa)), (m8, .inl (cI, 3721, .inl ((bldA wa (nI t) (bb, lo) k).1)))] H := hP
            have hD : va_D A [(mo, .inr (7, moV (nI nn) (nI mm) me mj mw mp mu (zb (ke = true)) bd ml (nI sq) mq fi gu le cs (zb (ba = true)) ov m1 m2 m3 m4 lk (zb (sp = true)) bs bo m5 m6 m7 su sl m8 (((bldA wa (nI t) (bb, lo) k).2) + 1) sh)), (mq, .inl (cI, 120, .inl wa)), (m8, .inl (cI, 3721, .inl ((bldA wa (nI t) (bb, lo) k).1)))] := hD
            refine lv_aload_n hx hb dX7_build_70 rfl (lv_at hl 1 rfl) ?_
            refine va_get (D := D) (ci := 7) (v := .ref m8) (C := RX7) (T := TX7) (N := 34) hx hb hts hi_7 hown hK hP 0 rfl rfl 31 (by decide) hf_59 (fun _ h9 => h9) rfl dX7_build_71 ?_
            refine lv_iload_n hx hb dX7_build_74 rfl (lv_at hl 0 rfl) ?_
            refine lv_aload_n hx hb dX7_build_75 rfl (lv_at hl 1 rfl) ?_
            refine va_get (D := D) (ci := 7) (v := .ref m8) (C := RX7) (T := TX7) (N := 34) hx hb hts hi_7 hown hK hP 0 rfl rfl 31 (by decide) hf_59 (fun _ h9 => h9) rfl dX7_build_76 ?_
            refine lv_iload_n hx hb dX7_build_79 rfl (lv_at hl 0 rfl) ?_
            refine r_iald hx hb hK hP 2 rfl (sqM wa k) hq1 hq2 (Nat.lt_trans hq2 (by decide)) dX7_build_80 ?_
            refine lv_iconst (v := 1) hx hb dX7_build_81 (by decide) ?_
            refine lv_icmp_ne (tgt := 89) hx hb dX7_build_82 (by decide) (fun c_82 => ?_) (fun c_82 => ?_)
            · exact absurd c_58 c_82
            · refine lv_iconst (v := 1) hx hb dX7_build_85 (by decide) ?_
              refine lv_goto (tgt := 90) hx hb dX7_build_86 (by decide) ?_
              refine r_iast hx hb hK hP hD hS 2 rfl (sqM wa k) hq1 hq2 (Nat.lt_trans hq2 (by decide)) dX7_build_90 (fun H locs hP hD hS => ?_)
              have hP : va_P D vwCl [(mo, .inr (7, moV (nI nn) (nI mm) me mj mw mp mu (zb (ke = true)) bd ml (nI sq) mq fi gu le cs (zb (ba = true)) ov m1 m2 m3 m4 lk (zb (sp = true)) bs bo m5 m6 m7 su sl m8 (((bldA wa (nI t) (bb, lo) k).2) + 1) sh)), (mq, .inl (cI, 120, .inl wa)), (m8, .inl (cI, 3721, .inl (upd ((bldA wa (nI t) (bb, lo) k).1) (sqM wa k) 1)))] H := hP
              have hD : va_D A [(mo, .inr (7, moV (nI nn) (nI mm) me mj mw mp mu (zb (ke = true)) bd ml (nI sq) mq fi gu le cs (zb (ba = true)) ov m1 m2 m3 m4 lk (zb (sp = true)) bs bo m5 m6 m7 su sl m8 (((bldA wa (nI t) (bb, lo) k).2) + 1) sh)), (mq, .inl (cI, 120, .inl wa)), (m8, .inl (cI, 3721, .inl (upd ((bldA wa (nI t) (bb, lo) k).1) (sqM wa k) 1)))] := hD
              refine r_iinc (lv' := [(2, .int (nI (k + 1))), (3, .int (61 * ((wa ((3 * k) + 1)) + 30) + (wa (3 * k)) + 30)), (0, .ref mo), (1, .int (nI t))]) hx hb 3 k dX7_build_91 hl rfl (by decide) rfl (fun ls hl => ?_)
              refine lv_goto (tgt := 2) hx hb dX7_build_94 (by decide) ?_
              exact ih_lp (k + 1) (by omega) (by omega) ls _ _ (lv_sub hl [2, 3, 0] rfl) (by rw [bldA, if_pos c_21, bldS, if_pos c_58]; exact hP) (by rw [bldA, if_pos c_21, bldS, if_pos c_58]; exact hD) hS
  exact lp _ 0 (by omega) (Nat.lt_succ_self _) ls _ _ (lv_sub hl [1, 2, 0] rfl) hP hD hS
def rmX7_touches : Room := { frames := 1, cells := 0, slots := 0, locals := 21 }
theorem kdX7_touches : yX7_touches.cls = RX7 ∧ yX7_touches.cls ≠ "java/lang/invoke/MethodHandle" ∧ yX7_touches.cls ≠ "java/lang/invoke/VarHandle" ∧ (parseMethodDescriptor yX7_touches.desc).map (fun d => d.parameters.length) = some 2 := ⟨rfl, by decide +kernel, by decide +kernel, by decide +kernel⟩
set_option maxRecDepth 100000 in
set_option maxHeartbeats 1000000 in
theorem kX7_touches (l : Launch) (D : va_G) (cI cJ : ClassId) (mo : Nat) (nn : Nat) (mm : Nat) (me : Nat) (mj : Nat) (mw : Nat) (mp : Nat) (mu : Nat) (ke : Bool) (bd : Int32) (ml : Nat) (sq : Nat) (mq : Nat) (fi : Int32) (gu : Int32) (le : Int32) (cs : Int32) (ba : Bool) (ov : Int32) (m1 : Nat) (m2 : Nat) (m3 : Nat) (m4 : Nat) (lk : Int32) (sp : Bool) (bs : Int32) (bo : Int32) (m5 : Nat) (m6 : Nat) (m7 : Nat) (su : Int32) (sl : Int32) (m8 : Nat) (lo : Int32) (sh : Int32) (bb : Row) (X Y : Nat) (hX : X ≤ 60) (hY : Y ≤ 60) : Met l yX7_touches wsX7_touches rmX7_touches (rPre D cI cJ [.ref mo, .int (crd X), .int (crd Y)] [(mo, .inr (7, moV (nI nn) (nI mm) me mj mw mp mu (zb (ke = true)) bd ml (nI sq) mq fi gu le cs (zb (ba = true)) ov m1 m2 m3 m4 lk (zb (sp = true)) bs bo m5 m6 m7 su sl m8 lo sh)), (m8, .inl (cI, 3721, .inl bb))]) (qRI (zb (tchB bb X Y = true))) 0 0 nA := by
  refine startR (cc := cX7_touches) (maxL := 3) (ret := (some .boolean)) (by decide) rfl (Nat.le_of_ble_eq_true rfl) ?_
  intro p e s m args below meth c ls Q hQ hx hb hr hlocks hml hown hts hK hN hP hl hin
  have hown : s.vm.findClass RX7 = some m.cls := hown
  have hi_7 : ∀ w ∈ wsX70, w ∈ wsX7_touches := by decide +kernel
  have hf_59 := hts (.fieldLink RX7 59 "FireNetsModel" "board" "[I") (by decide +kernel)
  have hS : va_S nA s.heap s.heap [] := va_S.rf
  have hl : lv_has ls 3 [(0, .ref mo), (1, .int (crd X)), (2, .int (crd Y))] := hl
  have hP : va_P D vwCl [(mo, .inr (7, moV (nI nn) (nI mm) me mj mw mp mu (zb (ke = true)) bd ml (nI sq) mq fi gu le cs (zb (ba = true)) ov m1 m2 m3 m4 lk (zb (sp = true)) bs bo m5 m6 m7 su sl m8 lo sh)), (m8, .inl (cI, 3721, .inl bb))] s.heap := hP
  refine lv_iload_n hx hb dX7_touches_0 rfl (lv_at hl 1 rfl) ?_
  refine lv_bipush (v := (-30)) hx hb dX7_touches_1 (by decide) ?_
  refine lv_icmp_le (tgt := 22) hx hb dX7_touches_3 (by decide) (fun c_3 => ?_) (fun c_3 => ?_)
  · refine lv_iload_n hx hb dX7_touches_22 rfl (lv_at hl 1 rfl) ?_
    refine lv_bipush (v := 30) hx hb dX7_touches_23 (by decide) ?_
    refine lv_icmp_ge (tgt := 44) hx hb dX7_touches_25 (by decide) (fun c_25 => ?_) (fun c_25 => ?_)
    · refine lv_iload_n hx hb dX7_touches_44 rfl (lv_at hl 2 rfl) ?_
      refine lv_bipush (v := (-30)) hx hb dX7_touches_45 (by decide) ?_
      refine lv_icmp_le (tgt := 66) hx hb dX7_touches_47 (by decide) (fun c_47 => ?_) (fun c_47 => ?_)
      · refine lv_iload_n hx hb dX7_touches_66 rfl (lv_at hl 2 rfl) ?_
        refine lv_bipush (v := 30) hx hb dX7_touches_67 (by decide) ?_
        refine lv_icmp_ge (tgt := 92) hx hb dX7_touches_69 (by decide) (fun c_69 => ?_) (fun c_69 => ?_)
        · refine lv_iconst (v := 0) hx hb dX7_touches_92 (by decide) ?_
          exact endRZ hx hb hr hlocks hQ hS dX7_touches_93 rfl (zb_f (by rw [tchB, decide_eq_true_iff]; rintro (h | h | h | h) <;> first | exact h.1 c_3 | exact h.1 c_25 | exact h.1 c_47 | exact h.1 c_69))
        · have h2Y : ¬ 60 ≤ Y := fun h => c_69 ((crd_ge (by omega)).mpr h)
          refine lv_aload_n hx hb dX7_touches_72 rfl (lv_at hl 0 rfl) ?_
          refine va_get (D := D) (ci := 7) (v := .ref m8) (C := RX7) (T := TX7) (N := 34) hx hb hts hi_7 hown hK hP 0 rfl rfl 31 (by decide) hf_59 (fun _ h9 => h9) rfl dX7_touches_73 ?_
          refine lv_iload_n hx hb dX7_touches_76 rfl (lv_at hl 1 rfl) ?_
          refine lv_iload_n hx hb dX7_touches_77 rfl (lv_at hl 2 rfl) ?_
          refine lv_iconst (v := 1) hx hb dX7_touches_78 (by decide) ?_
          refine lv_iadd hx hb dX7_touches_79 ?_
          refine goRI hP hS (va_runS (As := [.int (crd X), .int ((crd Y) + 1)]) (rest := [.ref m8]) ⟨hx, hb, hml, hown, hts⟩ (kX7_square l D cI cJ (crd X) ((crd Y) + 1)) (va_cwS 2 hts gX7_touches_X7_square rfl rfl rfl kdX7_square.2 ⟨Nat.le_of_ble_eq_true rfl, Nat.le_of_ble_eq_true rfl⟩) (preR hK hN hP [] rfl) rfl rfl hl.1 rfl (lv_room (Nat.le_of_ble_eq_true rfl)) dX7_touches_80 ⟨Nat.zero_le _, Nat.zero_le _⟩) (fun H locs hP hS => ?_)
          refine r_iald hx hb hK hP 1 rfl (61 * (Y + 1) + X) (by rw [crd_s]; exact crd_sq _ _) (by omega) (by omega) dX7_touches_83 ?_
          refine lv_iconst (v := 1) hx hb dX7_touches_84 (by decide) ?_
          refine lv_icmp_ne (tgt := 92) hx hb dX7_touches_85 (by decide) (fun c_85 => ?_) (fun c_85 => ?_)
          · refine lv_iconst (v := 0) hx hb dX7_touches_92 (by decide) ?_
            exact endRZ hx hb hr hlocks hQ hS dX7_touches_93 rfl (zb_f (by rw [tchB, decide_eq_true_iff]; rintro (h | h | h | h) <;> first | exact h.1 c_3 | exact h.1 c_25 | exact h.1 c_47 | exact absurd h.2 c_85))
          · refine lv_iconst (v := 1) hx hb dX7_touches_88 (by decide) ?_
            refine lv_goto (tgt := 93) hx hb dX7_touches_89 (by decide) ?_
            exact endRZ hx hb hr hlocks hQ hS dX7_touches_93 rfl (zb_t (by rw [tchB, decide_eq_true_iff]; exact Or.inr (Or.inr (Or.inr ⟨c_69, c_85⟩))))
      · have h1Y : Y ≠ 0 := fun h => c_47 ((crd_le (by omega)).mpr h)
        refine lv_aload_n hx hb dX7_touches_50 rfl (lv_at hl 0 rfl) ?_
        refine va_get (D := D) (ci := 7) (v := .ref m8) (C := RX7) (T := TX7) (N := 34) hx hb hts hi_7 hown hK hP 0 rfl rfl 31 (by decide) hf_59 (fun _ h9 => h9) rfl dX7_touches_51 ?_
        refine lv_iload_n hx hb dX7_touches_54 rfl (lv_at hl 1 rfl) ?_
        refine lv_iload_n hx hb dX7_touches_55 rfl (lv_at hl 2 rfl) ?_
        refine lv_iconst (v := 1) hx hb dX7_touches_56 (by decide) ?_
        refine lv_isub hx hb dX7_touches_57 ?_
        refine goRI hP hS (va_runS (As := [.int (crd X), .int ((crd Y) - 1)]) (rest := [.ref m8]) ⟨hx, hb, hml, hown, hts⟩ (kX7_square l D cI cJ (crd X) ((crd Y) - 1)) (va_cwS 2 hts gX7_touches_X7_square rfl rfl rfl kdX7_square.2 ⟨Nat.le_of_ble_eq_true rfl, Nat.le_of_ble_eq_true rfl⟩) (preR hK hN hP [] rfl) rfl rfl hl.1 rfl (lv_room (Nat.le_of_ble_eq_true rfl)) dX7_touches_58 ⟨Nat.zero_le _, Nat.zero_le _⟩) (fun H locs hP hS => ?_)
        refine r_iald hx hb hK hP 1 rfl (61 * (Y - 1) + X) (by rw [crd_p (by omega)]; exact crd_sq _ _) (by omega) (by omega) dX7_touches_61 ?_
        refine lv_iconst (v := 1) hx hb dX7_touches_62 (by decide) ?_
        refine lv_icmp_eq (tgt := 88) hx hb dX7_touches_63 (by decide) (fun c_63 => ?_) (fun c_63 => ?_)
        · refine lv_iconst (v := 1) hx hb dX7_touches_88 (by decide) ?_
          refine lv_goto (tgt := 93) hx hb dX7_touches_89 (by decide) ?_
          exact endRZ hx hb hr hlocks hQ hS dX7_touches_93 rfl (zb_t (by rw [tchB, decide_eq_true_iff]; exact Or.inr (Or.inr (Or.inl ⟨c_47, c_63⟩))))
        · refine lv_iload_n hx hb dX7_touches_66 rfl (lv_at hl 2 rfl) ?_
          refine lv_bipush (v := 30) hx hb dX7_touches_67 (by decide) ?_
          refine lv_icmp_ge (tgt := 92) hx hb dX7_touches_69 (by decide) (fun c_69 => ?_) (fun c_69 => ?_)
          · refine lv_iconst (v := 0) hx hb dX7_touches_92 (by decide) ?_
            exact endRZ hx hb hr hlocks hQ hS dX7_touches_93 rfl (zb_f (by rw [tchB, decide_eq_true_iff]; rintro (h | h | h | h) <;> first | exact h.1 c_3 | exact h.1 c_25 | exact absurd h.2 c_63 | exact h.1 c_69))
          · have h2Y : ¬ 60 ≤ Y := fun h => c_69 ((crd_ge (by omega)).mpr h)
            refine lv_aload_n hx hb dX7_touches_72 rfl (lv_at hl 0 rfl) ?_
            refine va_get (D := D) (ci := 7) (v := .ref m8) (C := RX7) (T := TX7) (N := 34) hx hb hts hi_7 hown hK hP 0 rfl rfl 31 (by decide) hf_59 (fun _ h9 => h9) rfl dX7_touches_73 ?_
            refine lv_iload_n hx hb dX7_touches_76 rfl (lv_at hl 1 rfl) ?_
            refine lv_iload_n hx hb dX7_touches_77 rfl (lv_at hl 2 rfl) ?_
            refine lv_iconst (v := 1) hx hb dX7_touches_78 (by decide) ?_
            refine lv_iadd hx hb dX7_touches_79 ?_
            refine goRI hP hS (va_runS (As := [.int (crd X), .int ((crd Y) + 1)]) (rest := [.ref m8]) ⟨hx, hb, hml, hown, hts⟩ (kX7_square l D cI cJ (crd X) ((crd Y) + 1)) (va_cwS 2 hts gX7_touches_X7_square rfl rfl rfl kdX7_square.2 ⟨Nat.le_of_ble_eq_true rfl, Nat.le_of_ble_eq_true rfl⟩) (preR hK hN hP [] rfl) rfl rfl hl.1 rfl (lv_room (Nat.le_of_ble_eq_true rfl)) dX7_touches_80 ⟨Nat.zero_le _, Nat.zero_le _⟩) (fun H locs hP hS => ?_)
            refine r_iald hx hb hK hP 1 rfl (61 * (Y + 1) + X) (by rw [crd_s]; exact crd_sq _ _) (by omega) (by omega) dX7_touches_83 ?_
            refine lv_iconst (v := 1) hx hb dX7_touches_84 (by decide) ?_
            refine lv_icmp_ne (tgt := 92) hx hb dX7_touches_85 (by decide) (fun c_85 => ?_) (fun c_85 => ?_)
            · refine lv_iconst (v := 0) hx hb dX7_touches_92 (by decide) ?_
              exact endRZ hx hb hr hlocks hQ hS dX7_touches_93 rfl (zb_f (by rw [tchB, decide_eq_true_iff]; rintro (h | h | h | h) <;> first | exact h.1 c_3 | exact h.1 c_25 | exact absurd h.2 c_63 | exact absurd h.2 c_85))
            · refine lv_iconst (v := 1) hx hb dX7_touches_88 (by decide) ?_
              refine lv_goto (tgt := 93) hx hb dX7_touches_89 (by decide) ?_
              exact endRZ hx hb hr hlocks hQ hS dX7_touches_93 rfl (zb_t (by rw [tchB, decide_eq_true_iff]; exact Or.inr (Or.inr (Or.inr ⟨c_69, c_85⟩))))
    · have h2X : ¬ 60 ≤ X := fun h => c_25 ((crd_ge (by omega)).mpr h)
      refine lv_aload_n hx hb dX7_touches_28 rfl (lv_at hl 0 rfl) ?_
      refine va_get (D := D) (ci := 7) (v := .ref m8) (C := RX7) (T := TX7) (N := 34) hx hb hts hi_7 hown hK hP 0 rfl rfl 31 (by decide) hf_59 (fun _ h9 => h9) rfl dX7_touches_29 ?_
      refine lv_iload_n hx hb dX7_touches_32 rfl (lv_at hl 1 rfl) ?_
      refine lv_iconst (v := 1) hx hb dX7_touches_33 (by decide) ?_
      refine lv_iadd hx hb dX7_touches_34 ?_
      refine lv_iload_n hx hb dX7_touches_35 rfl (lv_at hl 2 rfl) ?_
      refine goRI hP hS (va_runS (As := [.int ((crd X) + 1), .int (crd Y)]) (rest := [.ref m8]) ⟨hx, hb, hml, hown, hts⟩ (kX7_square l D cI cJ ((crd X) + 1) (crd Y)) (va_cwS 2 hts gX7_touches_X7_square rfl rfl rfl kdX7_square.2 ⟨Nat.le_of_ble_eq_true rfl, Nat.le_of_ble_eq_true rfl⟩) (preR hK hN hP [] rfl) rfl rfl hl.1 rfl (lv_room (Nat.le_of_ble_eq_true rfl)) dX7_touches_36 ⟨Nat.zero_le _, Nat.zero_le _⟩) (fun H locs hP hS => ?_)
      refine r_iald hx hb hK hP 1 rfl (61 * Y + (X + 1)) (by rw [crd_s]; exact crd_sq _ _) (by omega) (by omega) dX7_touches_39 ?_
      refine lv_iconst (v := 1) hx hb dX7_touches_40 (by decide) ?_
      refine lv_icmp_eq (tgt := 88) hx hb dX7_touches_41 (by decide) (fun c_41 => ?_) (fun c_41 => ?_)
      · refine lv_iconst (v := 1) hx hb dX7_touches_88 (by decide) ?_
        refine lv_goto (tgt := 93) hx hb dX7_touches_89 (by decide) ?_
        exact endRZ hx hb hr hlocks hQ hS dX7_touches_93 rfl (zb_t (by rw [tchB, decide_eq_true_iff]; exact Or.inr (Or.inl ⟨c_25, c_41⟩)))
      · refine lv_iload_n hx hb dX7_touches_44 rfl (lv_at hl 2 rfl) ?_
        refine lv_bipush (v := (-30)) hx hb dX7_touches_45 (by decide) ?_
        refine lv_icmp_le (tgt := 66) hx hb dX7_touches_47 (by decide) (fun c_47 => ?_) (fun c_47 => ?_)
        · refine lv_iload_n hx hb dX7_touches_66 rfl (lv_at hl 2 rfl) ?_
          refine lv_bipush (v := 30) hx hb dX7_touches_67 (by decide) ?_
          refine lv_icmp_ge (tgt := 92) hx hb dX7_touches_69 (by decide) (fun c_69 => ?_) (fun c_69 => ?_)
          · refine lv_iconst (v := 0) hx hb dX7_touches_92 (by decide) ?_
            exact endRZ hx hb hr hlocks hQ hS dX7_touches_93 rfl (zb_f (by rw [tchB, decide_eq_true_iff]; rintro (h | h | h | h) <;> first | exact h.1 c_3 | exact absurd h.2 c_41 | exact h.1 c_47 | exact h.1 c_69))
          · have h2Y : ¬ 60 ≤ Y := fun h => c_69 ((crd_ge (by omega)).mpr h)
            refine lv_aload_n hx hb dX7_touches_72 rfl (lv_at hl 0 rfl) ?_
            refine va_get (D := D) (ci := 7) (v := .ref m8) (C := RX7) (T := TX7) (N := 34) hx hb hts hi_7 hown hK hP 0 rfl rfl 31 (by decide) hf_59 (fun _ h9 => h9) rfl dX7_touches_73 ?_
            refine lv_iload_n hx hb dX7_touches_76 rfl (lv_at hl 1 rfl) ?_
            refine lv_iload_n hx hb dX7_touches_77 rfl (lv_at hl 2 rfl) ?_
            refine lv_iconst (v := 1) hx hb dX7_touches_78 (by decide) ?_
            refine lv_iadd hx hb dX7_touches_79 ?_
            refine goRI hP hS (va_runS (As := [.int (crd X), .int ((crd Y) + 1)]) (rest := [.ref m8]) ⟨hx, hb, hml, hown, hts⟩ (kX7_square l D cI cJ (crd X) ((crd Y) + 1)) (va_cwS 2 hts gX7_touches_X7_square rfl rfl rfl kdX7_square.2 ⟨Nat.le_of_ble_eq_true rfl, Nat.le_of_ble_eq_true rfl⟩) (preR hK hN hP [] rfl) rfl rfl hl.1 rfl (lv_room (Nat.le_of_ble_eq_true rfl)) dX7_touches_80 ⟨Nat.zero_le _, Nat.zero_le _⟩) (fun H locs hP hS => ?_)
            refine r_iald hx hb hK hP 1 rfl (61 * (Y + 1) + X) (by rw [crd_s]; exact crd_sq _ _) (by omega) (by omega) dX7_touches_83 ?_
            refine lv_iconst (v := 1) hx hb dX7_touches_84 (by decide) ?_
            refine lv_icmp_ne (tgt := 92) hx hb dX7_touches_85 (by decide) (fun c_85 => ?_) (fun c_85 => ?_)
            · refine lv_iconst (v := 0) hx hb dX7_touches_92 (by decide) ?_
              exact endRZ hx hb hr hlocks hQ hS dX7_touches_93 rfl (zb_f (by rw [tchB, decide_eq_true_iff]; rintro (h | h | h | h) <;> first | exact h.1 c_3 | exact absurd h.2 c_41 | exact h.1 c_47 | exact absurd h.2 c_85))
            · refine lv_iconst (v := 1) hx hb dX7_touches_88 (by decide) ?_
              refine lv_goto (tgt := 93) hx hb dX7_touches_89 (by decide) ?_
              exact endRZ hx hb hr hlocks hQ hS dX7_touches_93 rfl (zb_t (by rw [tchB, decide_eq_true_iff]; exact Or.inr (Or.inr (Or.inr ⟨c_69, c_85⟩))))
        · have h1Y : Y ≠ 0 := fun h => c_47 ((crd_le (by omega)).mpr h)
          refine lv_aload_n hx hb dX7_touches_50 rfl (lv_at hl 0 rfl) ?_
          refine va_get (D := D) (ci := 7) (v := .ref m8) (C := RX7) (T := TX7) (N := 34) hx hb hts hi_7 hown hK hP 0 rfl rfl 31 (by decide) hf_59 (fun _ h9 => h9) rfl dX7_touches_51 ?_
          refine lv_iload_n hx hb dX7_touches_54 rfl (lv_at hl 1 rfl) ?_
          refine lv_iload_n hx hb dX7_touches_55 rfl (lv_at hl 2 rfl) ?_
          refine lv_iconst (v := 1) hx hb dX7_touches_56 (by decide) ?_
          refine lv_isub hx hb dX7_touches_57 ?_
          refine goRI hP hS (va_runS (As := [.int (crd X), .int ((crd Y) - 1)]) (rest := [.ref m8]) ⟨hx, hb, hml, hown, hts⟩ (kX7_square l D cI cJ (crd X) ((crd Y) - 1)) (va_cwS 2 hts gX7_touches_X7_square rfl rfl rfl kdX7_square.2 ⟨Nat.le_of_ble_eq_true rfl, Nat.le_of_ble_eq_true rfl⟩) (preR hK hN hP [] rfl) rfl rfl hl.1 rfl (lv_room (Nat.le_of_ble_eq_true rfl)) dX7_touches_58 ⟨Nat.zero_le _, Nat.zero_le _⟩) (fun H locs hP hS => ?_)
          refine r_iald hx hb hK hP 1 rfl (61 * (Y - 1) + X) (by rw [crd_p (by omega)]; exact crd_sq _ _) (by omega) (by omega) dX7_touches_61 ?_
          refine lv_iconst (v := 1) hx hb dX7_touches_62 (by decide) ?_
          refine lv_icmp_eq (tgt := 88) hx hb dX7_touches_63 (by decide) (fun c_63 => ?_) (fun c_63 => ?_)
          · refine lv_iconst (v := 1) hx hb dX7_touches_88 (by decide) ?_
            refine lv_goto (tgt := 93) hx hb dX7_touches_89 (by decide) ?_
            exact endRZ hx hb hr hlocks hQ hS dX7_touches_93 rfl (zb_t (by rw [tchB, decide_eq_true_iff]; exact Or.inr (Or.inr (Or.inl ⟨c_47, c_63⟩))))
          · refine lv_iload_n hx hb dX7_touches_66 rfl (lv_at hl 2 rfl) ?_
            refine lv_bipush (v := 30) hx hb dX7_touches_67 (by decide) ?_
            refine lv_icmp_ge (tgt := 92) hx hb dX7_touches_69 (by decide) (fun c_69 => ?_) (fun c_69 => ?_)
            · refine lv_iconst (v := 0) hx hb dX7_touches_92 (by decide) ?_
              exact endRZ hx hb hr hlocks hQ hS dX7_touches_93 rfl (zb_f (by rw [tchB, decide_eq_true_iff]; rintro (h | h | h | h) <;> first | exact h.1 c_3 | exact absurd h.2 c_41 | exact absurd h.2 c_63 | exact h.1 c_69))
            · have h2Y : ¬ 60 ≤ Y := fun h => c_69 ((crd_ge (by omega)).mpr h)
              refine lv_aload_n hx hb dX7_touches_72 rfl (lv_at hl 0 rfl) ?_
              refine va_get (D := D) (ci := 7) (v := .ref m8) (C := RX7) (T := TX7) (N := 34) hx hb hts hi_7 hown hK hP 0 rfl rfl 31 (by decide) hf_59 (fun _ h9 => h9) rfl dX7_touches_73 ?_
              refine lv_iload_n hx hb dX7_touches_76 rfl (lv_at hl 1 rfl) ?_
              refine lv_iload_n hx hb dX7_touches_77 rfl (lv_at hl 2 rfl) ?_
              refine lv_iconst (v := 1) hx hb dX7_touches_78 (by decide) ?_
              refine lv_iadd hx hb dX7_touches_79 ?_
              refine goRI hP hS (va_runS (As := [.int (crd X), .int ((crd Y) + 1)]) (rest := [.ref m8]) ⟨hx, hb, hml, hown, hts⟩ (kX7_square l D cI cJ (crd X) ((crd Y) + 1)) (va_cwS 2 hts gX7_touches_X7_square rfl rfl rfl kdX7_square.2 ⟨Nat.le_of_ble_eq_true rfl, Nat.le_of_ble_eq_true rfl⟩) (preR hK hN hP [] rfl) rfl rfl hl.1 rfl (lv_room (Nat.le_of_ble_eq_true rfl)) dX7_touches_80 ⟨Nat.zero_le _, Nat.zero_le _⟩) (fun H locs hP hS => ?_)
              refine r_iald hx hb hK hP 1 rfl (61 * (Y + 1) + X) (by rw [crd_s]; exact crd_sq _ _) (by omega) (by omega) dX7_touches_83 ?_
              refine lv_iconst (v := 1) hx hb dX7_touches_84 (by decide) ?_
              refine lv_icmp_ne (tgt := 92) hx hb dX7_touches_85 (by decide) (fun c_85 => ?_) (fun c_85 => ?_)
              · refine lv_iconst (v := 0) hx hb dX7_touches_92 (by decide) ?_
                exact endRZ hx hb hr hlocks hQ hS dX7_touches_93 rfl (zb_f (by rw [tchB, decide_eq_true_iff]; rintro (h | h | h | h) <;> first | exact h.1 c_3 | exact absurd h.2 c_41 | exact absurd h.2 c_63 | exact absurd h.2 c_85))
              · refine lv_iconst (v := 1) hx hb dX7_touches_88 (by decide) ?_
                refine lv_goto (tgt := 93) hx hb dX7_touches_89 (by decide) ?_
                exact endRZ hx hb hr hlocks hQ hS dX7_touches_93 rfl (zb_t (by rw [tchB, decide_eq_true_iff]; exact Or.inr (Or.inr (Or.inr ⟨c_69, c_85⟩))))
  · have h1X : X ≠ 0 := fun h => c_3 ((crd_le (by omega)).mpr h)
    refine lv_aload_n hx hb dX7_touches_6 rfl (lv_at hl 0 rfl) ?_
    refine va_get (D := D) (ci := 7) (v := .ref m8) (C := RX7) (T := TX7) (N := 34) hx hb hts hi_7 hown hK hP 0 rfl rfl 31 (by decide) hf_59 (fun _ h9 => h9) rfl dX7_touches_7 ?_
    refine lv_iload_n hx hb dX7_touches_10 rfl (lv_at hl 1 rfl) ?_
    refine lv_iconst (v := 1) hx hb dX7_touches_11 (by decide) ?_
    refine lv_isub hx hb dX7_touches_12 ?_
    refine lv_iload_n hx hb dX7_touches_13 rfl (lv_at hl 2 rfl) ?_
    refine goRI hP hS (va_runS (As := [.int ((crd X) - 1), .int (crd Y)]) (rest := [.ref m8]) ⟨hx, hb, hml, hown, hts⟩ (kX7_square l D cI cJ ((crd X) - 1) (crd Y)) (va_cwS 2 hts gX7_touches_X7_square rfl rfl rfl kdX7_square.2 ⟨Nat.le_of_ble_eq_true rfl, Nat.le_of_ble_eq_true rfl⟩) (preR hK hN hP [] rfl) rfl rfl hl.1 rfl (lv_room (Nat.le_of_ble_eq_true rfl)) dX7_touches_14 ⟨Nat.zero_le _, Nat.zero_le _⟩) (fun H locs hP hS => ?_)
    refine r_iald hx hb hK hP 1 rfl (61 * Y + (X - 1)) (by rw [crd_p (by omega)]; exact crd_sq _ _) (by omega) (by omega) dX7_touches_17 ?_
    refine lv_iconst (v := 1) hx hb dX7_touches_18 (by decide) ?_
    refine lv_icmp_eq (tgt := 88) hx hb dX7_touches_19 (by decide) (fun c_19 => ?_) (fun c_19 => ?_)
    · refine lv_iconst (v := 1) hx hb dX7_touches_88 (by decide) ?_
      refine lv_goto (tgt := 93) hx hb dX7_touches_89 (by decide) ?_
      exact endRZ hx hb hr hlocks hQ hS dX7_touches_93 rfl (zb_t (by rw [tchB, decide_eq_true_iff]; exact Or.inl ⟨c_3, c_19⟩))
    · refine lv_iload_n hx hb dX7_touches_22 rfl (lv_at hl 1 rfl) ?_
      refine lv_bipush (v := 30) hx hb dX7_touches_23 (by decide) ?_
      refine lv_icmp_ge (tgt := 44) hx hb dX7_touches_25 (by decide) (fun c_25 => ?_) (fun c_25 => ?_)
      · refine lv_iload_n hx hb dX7_touches_44 rfl (lv_at hl 2 rfl) ?_
        refine lv_bipush (v := (-30)) hx hb dX7_touches_45 (by decide) ?_
        refine lv_icmp_le (tgt := 66) hx hb dX7_touches_47 (by decide) (fun c_47 => ?_) (fun c_47 => ?_)
        · refine lv_iload_n hx hb dX7_touches_66 rfl (lv_at hl 2 rfl) ?_
          refine lv_bipush (v := 30) hx hb dX7_touches_67 (by decide) ?_
          refine lv_icmp_ge (tgt := 92) hx hb dX7_touches_69 (by decide) (fun c_69 => ?_) (fun c_69 => ?_)
          · refine lv_iconst (v := 0) hx hb dX7_touches_92 (by decide) ?_
            exact endRZ hx hb hr hlocks hQ hS dX7_touches_93 rfl (zb_f (by rw [tchB, decide_eq_true_iff]; rintro (h | h | h | h) <;> first | exact absurd h.2 c_19 | exact h.1 c_25 | exact h.1 c_47 | exact h.1 c_69))
          · have h2Y : ¬ 60 ≤ Y := fun h => c_69 ((crd_ge (by omega)).mpr h)
            refine lv_aload_n hx hb dX7_touches_72 rfl (lv_at hl 0 rfl) ?_
            refine va_get (D := D) (ci := 7) (v := .ref m8) (C := RX7) (T := TX7) (N := 34) hx hb hts hi_7 hown hK hP 0 rfl rfl 31 (by decide) hf_59 (fun _ h9 => h9) rfl dX7_touches_73 ?_
            refine lv_iload_n hx hb dX7_touches_76 rfl (lv_at hl 1 rfl) ?_
            refine lv_iload_n hx hb dX7_touches_77 rfl (lv_at hl 2 rfl) ?_
            refine lv_iconst (v := 1) hx hb dX7_touches_78 (by decide) ?_
            refine lv_iadd hx hb dX7_touches_79 ?_
            refine goRI hP hS (va_runS (As := [.int (crd X), .int ((crd Y) + 1)]) (rest := [.ref m8]) ⟨hx, hb, hml, hown, hts⟩ (kX7_square l D cI cJ (crd X) ((crd Y) + 1)) (va_cwS 2 hts gX7_touches_X7_square rfl rfl rfl kdX7_square.2 ⟨Nat.le_of_ble_eq_true rfl, Nat.le_of_ble_eq_true rfl⟩) (preR hK hN hP [] rfl) rfl rfl hl.1 rfl (lv_room (Nat.le_of_ble_eq_true rfl)) dX7_touches_80 ⟨Nat.zero_le _, Nat.zero_le _⟩) (fun H locs hP hS => ?_)
            refine r_iald hx hb hK hP 1 rfl (61 * (Y + 1) + X) (by rw [crd_s]; exact crd_sq _ _) (by omega) (by omega) dX7_touches_83 ?_
            refine lv_iconst (v := 1) hx hb dX7_touches_84 (by decide) ?_
            refine lv_icmp_ne (tgt := 92) hx hb dX7_touches_85 (by decide) (fun c_85 => ?_) (fun c_85 => ?_)
            · refine lv_iconst (v := 0) hx hb dX7_touches_92 (by decide) ?_
              exact endRZ hx hb hr hlocks hQ hS dX7_touches_93 rfl (zb_f (by rw [tchB, decide_eq_true_iff]; rintro (h | h | h | h) <;> first | exact absurd h.2 c_19 | exact h.1 c_25 | exact h.1 c_47 | exact absurd h.2 c_85))
            · refine lv_iconst (v := 1) hx hb dX7_touches_88 (by decide) ?_
              refine lv_goto (tgt := 93) hx hb dX7_touches_89 (by decide) ?_
              exact endRZ hx hb hr hlocks hQ hS dX7_touches_93 rfl (zb_t (by rw [tchB, decide_eq_true_iff]; exact Or.inr (Or.inr (Or.inr ⟨c_69, c_85⟩))))
        · have h1Y : Y ≠ 0 := fun h => c_47 ((crd_le (by omega)).mpr h)
          refine lv_aload_n hx hb dX7_touches_50 rfl (lv_at hl 0 rfl) ?_
          refine va_get (D := D) (ci := 7) (v := .ref m8) (C := RX7) (T := TX7) (N := 34) hx hb hts hi_7 hown hK hP 0 rfl rfl 31 (by decide) hf_59 (fun _ h9 => h9) rfl dX7_touches_51 ?_
          refine lv_iload_n hx hb dX7_touches_54 rfl (lv_at hl 1 rfl) ?_
          refine lv_iload_n hx hb dX7_touches_55 rfl (lv_at hl 2 rfl) ?_
          refine lv_iconst (v := 1) hx hb dX7_touches_56 (by decide) ?_
          refine lv_isub hx hb dX7_touches_57 ?_
          refine goRI hP hS (va_runS (As := [.int (crd X), .int ((crd Y) - 1)]) (rest := [.ref m8]) ⟨hx, hb, hml, hown, hts⟩ (kX7_square l D cI cJ (crd X) ((crd Y) - 1)) (va_cwS 2 hts gX7_touches_X7_square rfl rfl rfl kdX7_square.2 ⟨Nat.le_of_ble_eq_true rfl, Nat.le_of_ble_eq_true rfl⟩) (preR hK hN hP [] rfl) rfl rfl hl.1 rfl (lv_room (Nat.le_of_ble_eq_true rfl)) dX7_touches_58 ⟨Nat.zero_le _, Nat.zero_le _⟩) (fun H locs hP hS => ?_)
          refine r_iald hx hb hK hP 1 rfl (61 * (Y - 1) + X) (by rw [crd_p (by omega)]; exact crd_sq _ _) (by omega) (by omega) dX7_touches_61 ?_
          refine lv_iconst (v := 1) hx hb dX7_touches_62 (by decide) ?_
          refine lv_icmp_eq (tgt := 88) hx hb dX7_touches_63 (by decide) (fun c_63 => ?_) (fun c_63 => ?_)
          · refine lv_iconst (v := 1) hx hb dX7_touches_88 (by decide) ?_
            refine lv_goto (tgt := 93) hx hb dX7_touches_89 (by decide) ?_
            exact endRZ hx hb hr hlocks hQ hS dX7_touches_93 rfl (zb_t (by rw [tchB, decide_eq_true_iff]; exact Or.inr (Or.inr (Or.inl ⟨c_47, c_63⟩))))
          · refine lv_iload_n hx hb dX7_touches_66 rfl (lv_at hl 2 rfl) ?_
            refine lv_bipush (v := 30) hx hb dX7_touches_67 (by decide) ?_
            refine lv_icmp_ge (tgt := 92) hx hb dX7_touches_69 (by decide) (fun c_69 => ?_) (fun c_69 => ?_)
            · refine lv_iconst (v := 0) hx hb dX7_touches_92 (by decide) ?_
              exact endRZ hx hb hr hlocks hQ hS dX7_touches_93 rfl (zb_f (by rw [tchB, decide_eq_true_iff]; rintro (h | h | h | h) <;> first | exact absurd h.2 c_19 | exact h.1 c_25 | exact absurd h.2 c_63 | exact h.1 c_69))
            · have h2Y : ¬ 60 ≤ Y := fun h => c_69 ((crd_ge (by omega)).mpr h)
              refine lv_aload_n hx hb dX7_touches_72 rfl (lv_at hl 0 rfl) ?_
              refine va_get (D := D) (ci := 7) (v := .ref m8) (C := RX7) (T := TX7) (N := 34) hx hb hts hi_7 hown hK hP 0 rfl rfl 31 (by decide) hf_59 (fun _ h9 => h9) rfl dX7_touches_73 ?_
              refine lv_iload_n hx hb dX7_touches_76 rfl (lv_at hl 1 rfl) ?_
              refine lv_iload_n hx hb dX7_touches_77 rfl (lv_at hl 2 rfl) ?_
              refine lv_iconst (v := 1) hx hb dX7_touches_78 (by decide) ?_
              refine lv_iadd hx hb dX7_touches_79 ?_
              refine goRI hP hS (va_runS (As := [.int (crd X), .int ((crd Y) + 1)]) (rest := [.ref m8]) ⟨hx, hb, hml, hown, hts⟩ (kX7_square l D cI cJ (crd X) ((crd Y) + 1)) (va_cwS 2 hts gX7_touches_X7_square rfl rfl rfl kdX7_square.2 ⟨Nat.le_of_ble_eq_true rfl, Nat.le_of_ble_eq_true rfl⟩) (preR hK hN hP [] rfl) rfl rfl hl.1 rfl (lv_room (Nat.le_of_ble_eq_true rfl)) dX7_touches_80 ⟨Nat.zero_le _, Nat.zero_le _⟩) (fun H locs hP hS => ?_)
              refine r_iald hx hb hK hP 1 rfl (61 * (Y + 1) + X) (by rw [crd_s]; exact crd_sq _ _) (by omega) (by omega) dX7_touches_83 ?_
              refine lv_iconst (v := 1) hx hb dX7_touches_84 (by decide) ?_
              refine lv_icmp_ne (tgt := 92) hx hb dX7_touches_85 (by decide) (fun c_85 => ?_) (fun c_85 => ?_)
              · refine lv_iconst (v := 0) hx hb dX7_touches_92 (by decide) ?_
                exact endRZ hx hb hr hlocks hQ hS dX7_touches_93 rfl (zb_f (by rw [tchB, decide_eq_true_iff]; rintro (h | h | h | h) <;> first | exact absurd h.2 c_19 | exact h.1 c_25 | exact absurd h.2 c_63 | exact absurd h.2 c_85))
              · refine lv_iconst (v := 1) hx hb dX7_touches_88 (by decide) ?_
                refine lv_goto (tgt := 93) hx hb dX7_touches_89 (by decide) ?_
                exact endRZ hx hb hr hlocks hQ hS dX7_touches_93 rfl (zb_t (by rw [tchB, decide_eq_true_iff]; exact Or.inr (Or.inr (Or.inr ⟨c_69, c_85⟩))))
      · have h2X : ¬ 60 ≤ X := fun h => c_25 ((crd_ge (by omega)).mpr h)
        refine lv_aload_n hx hb dX7_touches_28 rfl (lv_at hl 0 rfl) ?_
        refine va_get (D := D) (ci := 7) (v := .ref m8) (C := RX7) (T := TX7) (N := 34) hx hb hts hi_7 hown hK hP 0 rfl rfl 31 (by decide) hf_59 (fun _ h9 => h9) rfl dX7_touches_29 ?_
        refine lv_iload_n hx hb dX7_touches_32 rfl (lv_at hl 1 rfl) ?_
        refine lv_iconst (v := 1) hx hb dX7_touches_33 (by decide) ?_
        refine lv_iadd hx hb dX7_touches_34 ?_
        refine lv_iload_n hx hb dX7_touches_35 rfl (lv_at hl 2 rfl) ?_
        refine goRI hP hS (va_runS (As := [.int ((crd X) + 1), .int (crd Y)]) (rest := [.ref m8]) ⟨hx, hb, hml, hown, hts⟩ (kX7_square l D cI cJ ((crd X) + 1) (crd Y)) (va_cwS 2 hts gX7_touches_X7_square rfl rfl rfl kdX7_square.2 ⟨Nat.le_of_ble_eq_true rfl, Nat.le_of_ble_eq_true rfl⟩) (preR hK hN hP [] rfl) rfl rfl hl.1 rfl (lv_room (Nat.le_of_ble_eq_true rfl)) dX7_touches_36 ⟨Nat.zero_le _, Nat.zero_le _⟩) (fun H locs hP hS => ?_)
        refine r_iald hx hb hK hP 1 rfl (61 * Y + (X + 1)) (by rw [crd_s]; exact crd_sq _ _) (by omega) (by omega) dX7_touches_39 ?_
        refine lv_iconst (v := 1) hx hb dX7_touches_40 (by decide) ?_
        refine lv_icmp_eq (tgt := 88) hx hb dX7_touches_41 (by decide) (fun c_41 => ?_) (fun c_41 => ?_)
        · refine lv_iconst (v := 1) hx hb dX7_touches_88 (by decide) ?_
          refine lv_goto (tgt := 93) hx hb dX7_touches_89 (by decide) ?_
          exact endRZ hx hb hr hlocks hQ hS dX7_touches_93 rfl (zb_t (by rw [tchB, decide_eq_true_iff]; exact Or.inr (Or.inl ⟨c_25, c_41⟩)))
        · refine lv_iload_n hx hb dX7_touches_44 rfl (lv_at hl 2 rfl) ?_
          refine lv_bipush (v := (-30)) hx hb dX7_touches_45 (by decide) ?_
          refine lv_icmp_le (tgt := 66) hx hb dX7_touches_47 (by decide) (fun c_47 => ?_) (fun c_47 => ?_)
          · refine lv_iload_n hx hb dX7_touches_66 rfl (lv_at hl 2 rfl) ?_
            refine lv_bipush (v := 30) hx hb dX7_touches_67 (by decide) ?_
            refine lv_icmp_ge (tgt := 92) hx hb dX7_touches_69 (by decide) (fun c_69 => ?_) (fun c_69 => ?_)
            · refine lv_iconst (v := 0) hx hb dX7_touches_92 (by decide) ?_
              exact endRZ hx hb hr hlocks hQ hS dX7_touches_93 rfl (zb_f (by rw [tchB, decide_eq_true_iff]; rintro (h | h | h | h) <;> first | exact absurd h.2 c_19 | exact absurd h.2 c_41 | exact h.1 c_47 | exact h.1 c_69))
            · have h2Y : ¬ 60 ≤ Y := fun h => c_69 ((crd_ge (by omega)).mpr h)
              refine lv_aload_n hx hb dX7_touches_72 rfl (lv_at hl 0 rfl) ?_
              refine va_get (D := D) (ci := 7) (v := .ref m8) (C := RX7) (T := TX7) (N := 34) hx hb hts hi_7 hown hK hP 0 rfl rfl 31 (by decide) hf_59 (fun _ h9 => h9) rfl dX7_touches_73 ?_
              refine lv_iload_n hx hb dX7_touches_76 rfl (lv_at hl 1 rfl) ?_
              refine lv_iload_n hx hb dX7_touches_77 rfl (lv_at hl 2 rfl) ?_
              refine lv_iconst (v := 1) hx hb dX7_touches_78 (by decide) ?_
              refine lv_iadd hx hb dX7_touches_79 ?_
              refine goRI hP hS (va_runS (As := [.int (crd X), .int ((crd Y) + 1)]) (rest := [.ref m8]) ⟨hx, hb, hml, hown, hts⟩ (kX7_square l D cI cJ (crd X) ((crd Y) + 1)) (va_cwS 2 hts gX7_touches_X7_square rfl rfl rfl kdX7_square.2 ⟨Nat.le_of_ble_eq_true rfl, Nat.le_of_ble_eq_true rfl⟩) (preR hK hN hP [] rfl) rfl rfl hl.1 rfl (lv_room (Nat.le_of_ble_eq_true rfl)) dX7_touches_80 ⟨Nat.zero_le _, Nat.zero_le _⟩) (fun H locs hP hS => ?_)
              refine r_iald hx hb hK hP 1 rfl (61 * (Y + 1) + X) (by rw [crd_s]; exact crd_sq _ _) (by omega) (by omega) dX7_touches_83 ?_
              refine lv_iconst (v := 1) hx hb dX7_touches_84 (by decide) ?_
              refine lv_icmp_ne (tgt := 92) hx hb dX7_touches_85 (by decide) (fun c_85 => ?_) (fun c_85 => ?_)
              · refine lv_iconst (v := 0) hx hb dX7_touches_92 (by decide) ?_
                exact endRZ hx hb hr hlocks hQ hS dX7_touches_93 rfl (zb_f (by rw [tchB, decide_eq_true_iff]; rintro (h | h | h | h) <;> first | exact absurd h.2 c_19 | exact absurd h.2 c_41 | exact h.1 c_47 | exact absurd h.2 c_85))
              · refine lv_iconst (v := 1) hx hb dX7_touches_88 (by decide) ?_
                refine lv_goto (tgt := 93) hx hb dX7_touches_89 (by decide) ?_
                exact endRZ hx hb hr hlocks hQ hS dX7_touches_93 rfl (zb_t (by rw [tchB, decide_eq_true_iff]; exact Or.inr (Or.inr (Or.inr ⟨c_69, c_85⟩))))
          · have h1Y : Y ≠ 0 := fun h => c_47 ((crd_le (by omega)).mpr h)
            refine lv_aload_n hx hb dX7_touches_50 rfl (lv_at hl 0 rfl) ?_
            refine va_get (D := D) (ci := 7) (v := .ref m8) (C := RX7) (T := TX7) (N := 34) hx hb hts hi_7 hown hK hP 0 rfl rfl 31 (by decide) hf_59 (fun _ h9 => h9) rfl dX7_touches_51 ?_
            refine lv_iload_n hx hb dX7_touches_54 rfl (lv_at hl 1 rfl) ?_
            refine lv_iload_n hx hb dX7_touches_55 rfl (lv_at hl 2 rfl) ?_
            refine lv_iconst (v := 1) hx hb dX7_touches_56 (by decide) ?_
            refine lv_isub hx hb dX7_touches_57 ?_
            refine goRI hP hS (va_runS (As := [.int (crd X), .int ((crd Y) - 1)]) (rest := [.ref m8]) ⟨hx, hb, hml, hown, hts⟩ (kX7_square l D cI cJ (crd X) ((crd Y) - 1)) (va_cwS 2 hts gX7_touches_X7_square rfl rfl rfl kdX7_square.2 ⟨Nat.le_of_ble_eq_true rfl, Nat.le_of_ble_eq_true rfl⟩) (preR hK hN hP [] rfl) rfl rfl hl.1 rfl (lv_room (Nat.le_of_ble_eq_true rfl)) dX7_touches_58 ⟨Nat.zero_le _, Nat.zero_le _⟩) (fun H locs hP hS => ?_)
            refine r_iald hx hb hK hP 1 rfl (61 * (Y - 1) + X) (by rw [crd_p (by omega)]; exact crd_sq _ _) (by omega) (by omega) dX7_touches_61 ?_
            refine lv_iconst (v := 1) hx hb dX7_touches_62 (by decide) ?_
            refine lv_icmp_eq (tgt := 88) hx hb dX7_touches_63 (by decide) (fun c_63 => ?_) (fun c_63 => ?_)
            · refine lv_iconst (v := 1) hx hb dX7_touches_88 (by decide) ?_
              refine lv_goto (tgt := 93) hx hb dX7_touches_89 (by decide) ?_
              exact endRZ hx hb hr hlocks hQ hS dX7_touches_93 rfl (zb_t (by rw [tchB, decide_eq_true_iff]; exact Or.inr (Or.inr (Or.inl ⟨c_47, c_63⟩))))
            · refine lv_iload_n hx hb dX7_touches_66 rfl (lv_at hl 2 rfl) ?_
              refine lv_bipush (v := 30) hx hb dX7_touches_67 (by decide) ?_
              refine lv_icmp_ge (tgt := 92) hx hb dX7_touches_69 (by decide) (fun c_69 => ?_) (fun c_69 => ?_)
              · refine lv_iconst (v := 0) hx hb dX7_touches_92 (by decide) ?_
                exact endRZ hx hb hr hlocks hQ hS dX7_touches_93 rfl (zb_f (by rw [tchB, decide_eq_true_iff]; rintro (h | h | h | h) <;> first | exact absurd h.2 c_19 | exact absurd h.2 c_41 | exact absurd h.2 c_63 | exact h.1 c_69))
              · have h2Y : ¬ 60 ≤ Y := fun h => c_69 ((crd_ge (by omega)).mpr h)
                refine lv_aload_n hx hb dX7_touches_72 rfl (lv_at hl 0 rfl) ?_
                refine va_get (D := D) (ci := 7) (v := .ref m8) (C := RX7) (T := TX7) (N := 34) hx hb hts hi_7 hown hK hP 0 rfl rfl 31 (by decide) hf_59 (fun _ h9 => h9) rfl dX7_touches_73 ?_
                refine lv_iload_n hx hb dX7_touches_76 rfl (lv_at hl 1 rfl) ?_
                refine lv_iload_n hx hb dX7_touches_77 rfl (lv_at hl 2 rfl) ?_
                refine lv_iconst (v := 1) hx hb dX7_touches_78 (by decide) ?_
                refine lv_iadd hx hb dX7_touches_79 ?_
                refine goRI hP hS (va_runS (As := [.int (crd X), .int ((crd Y) + 1)]) (rest := [.ref m8]) ⟨hx, hb, hml, hown, hts⟩ (kX7_square l D cI cJ (crd X) ((crd Y) + 1)) (va_cwS 2 hts gX7_touches_X7_square rfl rfl rfl kdX7_square.2 ⟨Nat.le_of_ble_eq_true rfl, Nat.le_of_ble_eq_true rfl⟩) (preR hK hN hP [] rfl) rfl rfl hl.1 rfl (lv_room (Nat.le_of_ble_eq_true rfl)) dX7_touches_80 ⟨Nat.zero_le _, Nat.zero_le _⟩) (fun H locs hP hS => ?_)
                refine r_iald hx hb hK hP 1 rfl (61 * (Y + 1) + X) (by rw [crd_s]; exact crd_sq _ _) (by omega) (by omega) dX7_touches_83 ?_
                refine lv_iconst (v := 1) hx hb dX7_touches_84 (by decide) ?_
                refine lv_icmp_ne (tgt := 92) hx hb dX7_touches_85 (by decide) (fun c_85 => ?_) (fun c_85 => ?_)
                · refine lv_iconst (v := 0) hx hb dX7_touches_92 (by decide) ?_
                  exact endRZ hx hb hr hlocks hQ hS dX7_touches_93 rfl (zb_f (by rw [tchB, decide_eq_true_iff]; rintro (h | h | h | h) <;> first | exact absurd h.2 c_19 | exact absurd h.2 c_41 | exact absurd h.2 c_63 | exact absurd h.2 c_85))
                · refine lv_iconst (v := 1) hx hb dX7_touches_88 (by decide) ?_
                  refine lv_goto (tgt := 93) hx hb dX7_touches_89 (by decide) ?_
                  exact endRZ hx hb hr hlocks hQ hS dX7_touches_93 rfl (zb_t (by rw [tchB, decide_eq_true_iff]; exact Or.inr (Or.inr (Or.inr ⟨c_69, c_85⟩))))
def rmX7_burnOn : Room := { frames := 2, cells := 0, slots := 0, locals := 43 }
theorem kdX7_burnOn : yX7_burnOn.cls = RX7 ∧ yX7_burnOn.cls ≠ "java/lang/invoke/MethodHandle" ∧ yX7_burnOn.cls ≠ "java/lang/invoke/VarHandle" ∧ (parseMethodDescriptor yX7_burnOn.desc).map (fun d => d.parameters.length) = some 0 := ⟨rfl, by decide +kernel, by decide +kernel, by decide +kernel⟩
set_option maxRecDepth 100000 in
set_option maxHeartbeats 1000000 in
theorem kX7_burnOn (l : Launch) (D : va_G) (cI cJ : ClassId) (mo : Nat) (nn : Nat) (mm : Nat) (me : Nat) (mj : Nat) (mw : Nat) (mp : Nat) (mu : Nat) (ke : Bool) (bd : Int32) (ml : Nat) (sq : Nat) (mq : Nat) (fi : Int32) (gu : Int32) (le : Int32) (cs : Int32) (ba : Bool) (ov : Int32) (m1 : Nat) (m2 : Nat) (m3 : Nat) (m4 : Nat) (lk : Int32) (sp : Bool) (bs : Int32) (bo : Int32) (m5 : Nat) (m6 : Nat) (m7 : Nat) (su : Int32) (sl : Int32) (m8 : Nat) (lo : Int32) (sh : Int32) (bb : Row) (w : Nat) (hw : w = 61) : Met l yX7_burnOn wsX7_burnOn rmX7_burnOn (mPre D cI cJ [.ref mo] [(mo, .inr (7, moV (nI nn) (nI mm) me mj mw mp mu (zb (ke = true)) bd ml (nI sq) mq fi gu le cs (zb (ba = true)) ov m1 m2 m3 m4 lk (zb (sp = true)) bs bo m5 m6 m7 su sl m8 lo sh)), (m8, .inl (cI, 3721, .inl bb))]) (mQi D (fun (r : Int32) (_ : Unit) => r = (zb ((byA w (bb, false) w).2 = true))) (fun (_ : Unit) => [(mo, .inr (7, moV (nI nn) (nI mm) me mj mw mp mu (zb (ke = true)) bd ml (nI sq) mq fi gu le cs (zb (ba = true)) ov m1 m2 m3 m4 lk (zb (sp = true)) bs bo m5 m6 m7 su sl m8 lo sh)), (m8, .inl (cI, 3721, .inl (oneF (byA w (bb, false) w).1 3721)))]) [(mo, .inr (7, moV (nI nn) (nI mm) me mj mw mp mu (zb (ke = true)) bd ml (nI sq) mq fi gu le cs (zb (ba = true)) ov m1 m2 m3 m4 lk (zb (sp = true)) bs bo m5 m6 m7 su sl m8 lo sh)), (m8, .inl (cI, 3721, .inl bb))]) 0 0 (mA [(mo, .inr (7, moV (nI nn) (nI mm) me mj mw mp mu (zb (ke = true)) bd ml (nI sq) mq fi gu le cs (zb (ba = true)) ov m1 m2 m3 m4 lk (zb (sp = true)) bs bo m5 m6 m7 su sl m8 lo sh)), (m8, .inl (cI, 3721, .inl bb))]) := by
  refine startM (cc := cX7_burnOn) (maxL := 4) (ret := (some .boolean)) (by decide) rfl (Nat.le_of_ble_eq_true rfl) ?_
  intro p e s m args below meth c ls Q A hA hQ hx hb hr hlocks hml hown hts hK hN hP hD hl hin
  have hown : s.vm.findClass RX7 = some m.cls := hown
  have hi_7 : ∀ w ∈ wsX70, w ∈ wsX7_burnOn := by decide +kernel
  have hf_59 := hts (.fieldLink RX7 59 "FireNetsModel" "board" "[I") (by decide +kernel)
  have hS : va_S A s.heap s.heap [] := va_S.rf
  have hl : lv_has ls 4 [(0, .ref mo)] := hl
  have hP : va_P D vwCl [(mo, .inr (7, moV (nI nn) (nI mm) me mj mw mp mu (zb (ke = true)) bd ml (nI sq) mq fi gu le cs (zb (ba = true)) ov m1 m2 m3 m4 lk (zb (sp = true)) bs bo m5 m6 m7 su sl m8 lo sh)), (m8, .inl (cI, 3721, .inl bb))] s.heap := hP
  refine lv_iconst (v := 0) hx hb dX7_burnOn_0 (by decide) ?_
  refine lv_istore_n (lv' := [(1, .int 0), (0, .ref mo)]) hx hb dX7_burnOn_1 rfl hl (by decide) rfl (fun ls hl => ?_)
  refine lv_bipush (v := (-30)) hx hb dX7_burnOn_2 (by decide) ?_
  refine lv_istore_n (lv' := [(2, .int (-30)), (1, .int 0), (0, .ref mo)]) hx hb dX7_burnOn_4 rfl hl (by decide) rfl (fun ls hl => ?_)
  have ly : ∀ (fu : Nat) (Y : Nat), (Y ≤ 61) → 61 - Y < fu → ∀ (ls : Array Slot) (H : Heap) (locs : List Loc), lv_has ls 4 [(0, .ref mo), (1, .int (zb ((byA w (bb, false) Y).2 = true))), (2, .int (crd Y))] → va_P D vwCl [(mo, .inr (7, moV (nI nn) (nI mm) me mj mw mp mu (zb (ke = true)) bd ml (nI sq) mq fi gu le cs (zb (ba = true)) ov m1 m2 m3 m4 lk (zb (sp = true)) bs bo m5 m6 m7 su sl m8 lo sh)), (m8, .inl (cI, 3721, .inl ((byA w (bb, false) Y).1)))] H → va_D A [(mo, .inr (7, moV (nI nn) (nI mm) me mj mw mp mu (zb (ke = true)) bd ml (nI sq) mq fi gu le cs (zb (ba = true)) ov m1 m2 m3 m4 lk (zb (sp = true)) bs bo m5 m6 m7 su sl m8 lo sh)), (m8, .inl (cI, 3721, .inl ((byA w (bb, false) Y).1)))] → va_S A s.heap H locs → W p l e rmX7_burnOn s m args below meth c H locs 0 0 Q (F0 m 5 ls []) := by
    intro fu
    induction fu with
    | zero => intro Y hY hf; exact absurd hf (Nat.not_lt_zero _)
    | succ fu ih_ly =>
      intro Y hY hf ls H locs hl hP hD hS
      refine lv_iload_n hx hb dX7_burnOn_5 rfl (lv_at hl 2 rfl) ?_
      refine lv_bipush (v := 30) hx hb dX7_burnOn_6 (by decide) ?_
      refine lv_icmp_gt (tgt := 67) hx hb dX7_burnOn_8 (by decide) (fun c_8 => ?_) (fun c_8 => ?_)
      · refine lv_iconst (v := 0) hx hb dX7_burnOn_67 (by decide) ?_
        refine lv_istore_n (lv' := [(2, .int 0), (0, .ref mo), (1, .int (zb ((byA w (bb, false) Y).2 = true)))]) hx hb dX7_burnOn_68 rfl hl (by decide) rfl (fun ls hl => ?_)
        have lo : ∀ (fu : Nat) (k : Nat), (k ≤ 3721) → 3721 - k < fu → ∀ (ls : Array Slot) (H : Heap) (locs : List Loc), lv_has ls 4 [(0, .ref mo), (1, .int (zb ((byA w (bb, false) w).2 = true))), (2, .int (nI k))] → va_P D vwCl [(mo, .inr (7, moV (nI nn) (nI mm) me mj mw mp mu (zb (ke = true)) bd ml (nI sq) mq fi gu le cs (zb (ba = true)) ov m1 m2 m3 m4 lk (zb (sp = true)) bs bo m5 m6 m7 su sl m8 lo sh)), (m8, .inl (cI, 3721, .inl (oneF (byA w (bb, false) w).1 k)))] H → va_D A [(mo, .inr (7, moV (nI nn) (nI mm) me mj mw mp mu (zb (ke = true)) bd ml (nI sq) mq fi gu le cs (zb (ba = true)) ov m1 m2 m3 m4 lk (zb (sp = true)) bs bo m5 m6 m7 su sl m8 lo sh)), (m8, .inl (cI, 3721, .inl (oneF (byA w (bb, false) w).1 k)))] → va_S A s.heap H locs → W p l e rmX7_burnOn s m args below meth c H locs 0 0 Q (F0 m 69 ls []) := by
          intro fu
          induction fu with
          | zero => intro k hk hf; exact absurd hf (Nat.not_lt_zero _)
          | succ fu ih_lo =>
            intro k hk hf ls H locs hl hP hD hS
            refine lv_iload_n hx hb dX7_burnOn_69 rfl (lv_at hl 2 rfl) ?_
            refine lv_sipush (v := 3721) hx hb dX7_burnOn_70 (by decide) ?_
            refine r_icmp_ge (tgt := 108) hx hb k 3721 dX7_burnOn_73 (by decide) rfl rfl (by omega) (by omega) (fun c_73 => ?_) (fun c_73 => ?_)
            · refine lv_iload_n hx hb dX7_burnOn_108 rfl (lv_at hl 1 rfl) ?_
              exact endMZ () hx hb hr hlocks hA hQ hS hP dX7_burnOn_109 zb_nar (by rw [show k = 3721 by omega]) rfl
            · refine lv_aload_n hx hb dX7_burnOn_76 rfl (lv_at hl 0 rfl) ?_
              refine va_get (D := D) (ci := 7) (v := .ref m8) (C := RX7) (T := TX7) (N := 34) hx hb hts hi_7 hown hK hP 0 rfl rfl 31 (by decide) hf_59 (fun _ h9 => h9) rfl dX7_burnOn_77 ?_
              refine lv_iload_n hx hb dX7_burnOn_80 rfl (lv_at hl 2 rfl) ?_
              refine lv_aload_n hx hb dX7_burnOn_81 rfl (lv_at hl 0 rfl) ?_
              refine va_get (D := D) (ci := 7) (v := .ref m8) (C := RX7) (T := TX7) (N := 34) hx hb hts hi_7 hown hK hP 0 rfl rfl 31 (by decide) hf_59 (fun _ h9 => h9) rfl dX7_burnOn_82 ?_
              refine lv_iload_n hx hb dX7_burnOn_85 rfl (lv_at hl 2 rfl) ?_
              refine r_iald hx hb hK hP 1 rfl k rfl (by omega) (by omega) dX7_burnOn_86 ?_
              refine lv_iconst (v := 3) hx hb dX7_burnOn_87 (by decide) ?_
              refine lv_icmp_ne (tgt := 95) hx hb dX7_burnOn_88 (by decide) (fun c_88 => ?_) (fun c_88 => ?_)
              · refine lv_aload_n hx hb dX7_burnOn_95 rfl (lv_at hl 0 rfl) ?_
                refine va_get (D := D) (ci := 7) (v := .ref m8) (C := RX7) (T := TX7) (N := 34) hx hb hts hi_7 hown hK hP 0 rfl rfl 31 (by decide) hf_59 (fun _ h9 => h9) rfl dX7_burnOn_96 ?_
                refine lv_iload_n hx hb dX7_burnOn_99 rfl (lv_at hl 2 rfl) ?_
                refine r_iald hx hb hK hP 1 rfl k rfl (by omega) (by omega) dX7_burnOn_100 ?_
                refine r_iast hx hb hK hP hD hS 1 rfl k rfl (by omega) (by omega) dX7_burnOn_101 (fun H locs hP hD hS => ?_)
                have hP : va_P D vwCl [(mo, .inr (7, moV (nI nn) (nI mm) me mj mw mp mu (zb (ke = true)) bd ml (nI sq) mq fi gu le cs (zb (ba = true)) ov m1 m2 m3 m4 lk (zb (sp = true)) bs bo m5 m6 m7 su sl m8 lo sh)), (m8, .inl (cI, 3721, .inl (upd (oneF (byA w (bb, false) w).1 k) k ((oneF (byA w (bb, false) w).1 k) k))))] H := hP
                have hD : va_D A [(mo, .inr (7, moV (nI nn) (nI mm) me mj mw mp mu (zb (ke = true)) bd ml (nI sq) mq fi gu le cs (zb (ba = true)) ov m1 m2 m3 m4 lk (zb (sp = true)) bs bo m5 m6 m7 su sl m8 lo sh)), (m8, .inl (cI, 3721, .inl (upd (oneF (byA w (bb, false) w).1 k) k ((oneF (byA w (bb, false) w).1 k) k))))] := hD
                refine r_iinc (lv' := [(2, .int (nI (k + 1))), (0, .ref mo), (1, .int (zb ((byA w (bb, false) w).2 = true)))]) hx hb 2 k dX7_burnOn_102 hl rfl (by decide) rfl (fun ls hl => ?_)
                refine lv_goto (tgt := 69) hx hb dX7_burnOn_105 (by decide) ?_
                exact ih_lo (k + 1) (by omega) (by omega) ls _ _ (lv_sub hl [1, 2, 0] rfl) (by rw [oneF_S, if_neg (show ¬ (byA w (bb, false) w).1 k = 3 from fun h => c_88 ((oneF_k _ _).trans h)), ← oneF_k (byA w (bb, false) w).1 k]; exact hP) (by rw [oneF_S, if_neg (show ¬ (byA w (bb, false) w).1 k = 3 from fun h => c_88 ((oneF_k _ _).trans h)), ← oneF_k (byA w (bb, false) w).1 k]; exact hD) hS
              · refine lv_iconst (v := 1) hx hb dX7_burnOn_91 (by decide) ?_
                refine lv_goto (tgt := 101) hx hb dX7_burnOn_92 (by decide) ?_
                refine r_iast hx hb hK hP hD hS 1 rfl k rfl (by omega) (by omega) dX7_burnOn_101 (fun H locs hP hD hS => ?_)
                have hP : va_P D vwCl [(mo, .inr (7, moV (nI nn) (nI mm) me mj mw mp mu (zb (ke = true)) bd ml (nI sq) mq fi gu le cs (zb (ba = true)) ov m1 m2 m3 m4 lk (zb (sp = true)) bs bo m5 m6 m7 su sl m8 lo sh)), (m8, .inl (cI, 3721, .inl (upd (oneF (byA w (bb, false) w).1 k) k 1)))] H := hP
                have hD : va_D A [(mo, .inr (7, moV (nI nn) (nI mm) me mj mw mp mu (zb (ke = true)) bd ml (nI sq) mq fi gu le cs (zb (ba = true)) ov m1 m2 m3 m4 lk (zb (sp = true)) bs bo m5 m6 m7 su sl m8 lo sh)), (m8, .inl (cI, 3721, .inl (upd (oneF (byA w (bb, false) w).1 k) k 1)))] := hD
                refine r_iinc (lv' := [(2, .int (nI (k + 1))), (0, .ref mo), (1, .int (zb ((byA w (bb, false) w).2 = true)))]) hx hb 2 k dX7_burnOn_102 hl rfl (by decide) rfl (fun ls hl => ?_)
                refine lv_goto (tgt := 69) hx hb dX7_burnOn_105 (by decide) ?_
                exact ih_lo (k + 1) (by omega) (by omega) ls _ _ (lv_sub hl [1, 2, 0] rfl) (by rw [oneF_S, if_pos (show (byA w (bb, false) w).1 k = 3 from (oneF_k _ _).symm.trans c_88)]; exact hP) (by rw [oneF_S, if_pos (show (byA w (bb, false) w).1 k = 3 from (oneF_k _ _).symm.trans c_88)]; exact hD) hS
        have eY : w = Y := by rw [hw]; exact ((crd_gt (by omega)).mp c_8).symm
        exact lo _ 0 (by omega) (Nat.lt_succ_self _) ls _ _ (by rw [eY]; rw [eY] at hl; exact lv_sub hl [1, 2, 0] rfl) (by rw [oneF_0, eY]; rw [eY] at hP; exact hP) (by rw [oneF_0, eY]; rw [eY] at hD; exact hD) hS
      · have hY1 : ¬ Y = 61 := fun h => c_8 ((crd_gt (by omega)).mpr h)
        refine lv_bipush (v := (-30)) hx hb dX7_burnOn_11 (by decide) ?_
        refine lv_istore_n (lv' := [(3, .int (-30)), (0, .ref mo), (1, .int (zb ((byA w (bb, false) Y).2 = true))), (2, .int (crd Y))]) hx hb dX7_burnOn_13 rfl hl (by decide) rfl (fun ls hl => ?_)
        have lx : ∀ (fu : Nat) (X : Nat), (X ≤ 61) → 61 - X < fu → ∀ (ls : Array Slot) (H : Heap) (locs : List Loc), lv_has ls 4 [(0, .ref mo), (1, .int (zb ((bxA (byA w (bb, false) Y) Y X).2 = true))), (2, .int (crd Y)), (3, .int (crd X))] → va_P D vwCl [(mo, .inr (7, moV (nI nn) (nI mm) me mj mw mp mu (zb (ke = true)) bd ml (nI sq) mq fi gu le cs (zb (ba = true)) ov m1 m2 m3 m4 lk (zb (sp = true)) bs bo m5 m6 m7 su sl m8 lo sh)), (m8, .inl (cI, 3721, .inl ((bxA (byA w (bb, false) Y) Y X).1)))] H → va_D A [(mo, .inr (7, moV (nI nn) (nI mm) me mj mw mp mu (zb (ke = true)) bd ml (nI sq) mq fi gu le cs (zb (ba = true)) ov m1 m2 m3 m4 lk (zb (sp = true)) bs bo m5 m6 m7 su sl m8 lo sh)), (m8, .inl (cI, 3721, .inl ((bxA (byA w (bb, false) Y) Y X).1)))] → va_S A s.heap H locs → W p l e rmX7_burnOn s m args below meth c H locs 0 0 Q (F0 m 14 ls []) := by
          intro fu
          induction fu with
          | zero => intro X hX hf; exact absurd hf (Nat.not_lt_zero _)
          | succ fu ih_lx =>
            intro X hX hf ls H locs hl hP hD hS
            refine lv_iload_n hx hb dX7_burnOn_14 rfl (lv_at hl 3 rfl) ?_
            refine lv_bipush (v := 30) hx hb dX7_burnOn_15 (by decide) ?_
            refine lv_icmp_gt (tgt := 61) hx hb dX7_burnOn_17 (by decide) (fun c_17 => ?_) (fun c_17 => ?_)
            · refine lv_iinc (k := 2) (v := (crd Y) + 1) (lv' := [(2, .int ((crd Y) + 1)), (0, .ref mo), (1, .int (zb ((bxA (byA w (bb, false) Y) Y X).2 = true))), (3, .int (crd X))]) hx hb dX7_burnOn_61 hl rfl rfl (by decide) rfl (fun ls hl => ?_)
              refine lv_goto (tgt := 5) hx hb dX7_burnOn_64 (by decide) ?_
              have eX : w = X := by rw [hw]; exact ((crd_gt (by omega)).mp c_17).symm
              exact ih_ly (Y + 1) (by omega) (by omega) ls _ _ (by rw [byA, ← crd_s, eX]; rw [eX] at hl; exact lv_sub hl [1, 2, 0] rfl) (by rw [byA, eX]; rw [eX] at hP; exact hP) (by rw [byA, eX]; rw [eX] at hD; exact hD) hS
            · have hX1 : ¬ X = 61 := fun h => c_17 ((crd_gt (by omega)).mpr h)
              refine lv_aload_n hx hb dX7_burnOn_20 rfl (lv_at hl 0 rfl) ?_
              refine va_get (D := D) (ci := 7) (v := .ref m8) (C := RX7) (T := TX7) (N := 34) hx hb hts hi_7 hown hK hP 0 rfl rfl 31 (by decide) hf_59 (fun _ h9 => h9) rfl dX7_burnOn_21 ?_
              refine lv_iload_n hx hb dX7_burnOn_24 rfl (lv_at hl 3 rfl) ?_
              refine lv_iload_n hx hb dX7_burnOn_25 rfl (lv_at hl 2 rfl) ?_
              refine goRI hP hS (va_runS (As := [.int (crd X), .int (crd Y)]) (rest := [.ref m8]) ⟨hx, hb, hml, hown, hts⟩ (kX7_square l D cI cJ (crd X) (crd Y)) (va_cwS 2 hts gX7_burnOn_X7_square rfl rfl rfl kdX7_square.2 ⟨Nat.le_of_ble_eq_true rfl, Nat.le_of_ble_eq_true rfl⟩) (preR hK hN hP [] rfl) rfl rfl hl.1 rfl (lv_room (Nat.le_of_ble_eq_true rfl)) dX7_burnOn_26 ⟨Nat.zero_le _, Nat.zero_le _⟩) (fun H locs hP hS => ?_)
              refine r_iald hx hb hK hP 1 rfl (61 * Y + X) (crd_sq _ _) (by omega) (by omega) dX7_burnOn_29 ?_
              refine lv_if_ne (tgt := 55) hx hb dX7_burnOn_30 (by decide) (fun c_30 => ?_) (fun c_30 => ?_)
              · refine lv_iinc (k := 3) (v := (crd X) + 1) (lv' := [(3, .int ((crd X) + 1)), (0, .ref mo), (1, .int (zb ((bxA (byA w (bb, false) Y) Y X).2 = true))), (2, .int (crd Y))]) hx hb dX7_burnOn_55 hl rfl rfl (by decide) rfl (fun ls hl => ?_)
                refine lv_goto (tgt := 14) hx hb dX7_burnOn_58 (by decide) ?_
                exact ih_lx (X + 1) (by omega) (by omega) ls _ _ (by rw [bxA, cellS, if_neg (fun h => c_30 h.1), ← crd_s]; exact lv_sub hl [1, 2, 3, 0] rfl) (by rw [bxA, cellS, if_neg (fun h => c_30 h.1)]; exact hP) (by rw [bxA, cellS, if_neg (fun h => c_30 h.1)]; exact hD) hS
              · refine lv_aload_n hx hb dX7_burnOn_33 rfl (lv_at hl 0 rfl) ?_
                refine lv_iload_n hx hb dX7_burnOn_34 rfl (lv_at hl 3 rfl) ?_
                refine lv_iload_n hx hb dX7_burnOn_35 rfl (lv_at hl 2 rfl) ?_
                refine goRI hP hS (va_runV (As := [.int (crd X), .int (crd Y)]) (rest := []) ⟨hx, hb, hml, hown, hts⟩ (kX7_touches l D cI cJ mo nn mm me mj mw mp mu ke bd ml sq mq fi gu le cs ba ov m1 m2 m3 m4 lk sp bs bo m5 m6 m7 su sl m8 lo sh ((bxA (byA w (bb, false) Y) Y X).1) X Y (by omega) (by omega)) (cwV 2 hts gX7_burnOn_X7_touches rfl rfl rfl kdX7_touches ⟨Nat.le_of_ble_eq_true rfl, Nat.le_of_ble_eq_true rfl⟩) (preRV hK hN hP 0 (ci := 7) rfl rfl rfl [0, 1] rfl) rfl rfl hl.1 rfl (lv_room (Nat.le_of_ble_eq_true rfl)) dX7_burnOn_36 ⟨Nat.zero_le _, Nat.zero_le _⟩) (fun H locs hP hS => ?_)
                refine r_zeq (tgt := 55) hx hb dX7_burnOn_39 (by decide) (fun c_39 => ?_) (fun c_39 => ?_)
                · refine lv_iinc (k := 3) (v := (crd X) + 1) (lv' := [(3, .int ((crd X) + 1)), (0, .ref mo), (1, .int (zb ((bxA (byA w (bb, false) Y) Y X).2 = true))), (2, .int (crd Y))]) hx hb dX7_burnOn_55 hl rfl rfl (by decide) rfl (fun ls hl => ?_)
                  refine lv_goto (tgt := 14) hx hb dX7_burnOn_58 (by decide) ?_
                  exact ih_lx (X + 1) (by omega) (by omega) ls _ _ (by rw [bxA, cellS, if_neg (fun h => c_39 h.2), ← crd_s]; exact lv_sub hl [1, 2, 3, 0] rfl) (by rw [bxA, cellS, if_neg (fun h => c_39 h.2)]; exact hP) (by rw [bxA, cellS, if_neg (fun h => c_39 h.2)]; exact hD) hS
                · refine lv_aload_n hx hb dX7_burnOn_42 rfl (lv_at hl 0 rfl) ?_
                  refine va_get (D := D) (ci := 7) (v := .ref m8) (C := RX7) (T := TX7) (N := 34) hx hb hts hi_7 hown hK hP 0 rfl rfl 31 (by decide) hf_59 (fun _ h9 => h9) rfl dX7_burnOn_43 ?_
                  refine lv_iload_n hx hb dX7_burnOn_46 rfl (lv_at hl 3 rfl) ?_
                  refine lv_iload_n hx hb dX7_burnOn_47 rfl (lv_at hl 2 rfl) ?_
                  refine goRI hP hS (va_runS (As := [.int (crd X), .int (crd Y)]) (rest := [.ref m8]) ⟨hx, hb, hml, hown, hts⟩ (kX7_square l D cI cJ (crd X) (crd Y)) (va_cwS 2 hts gX7_burnOn_X7_square rfl rfl rfl kdX7_square.2 ⟨Nat.le_of_ble_eq_true rfl, Nat.le_of_ble_eq_true rfl⟩) (preR hK hN hP [] rfl) rfl rfl hl.1 rfl (lv_room (Nat.le_of_ble_eq_true rfl)) dX7_burnOn_48 ⟨Nat.zero_le _, Nat.zero_le _⟩) (fun H locs hP hS => ?_)
                  refine lv_iconst (v := 3) hx hb dX7_burnOn_51 (by decide) ?_
                  refine r_iast hx hb hK hP hD hS 1 rfl (61 * Y + X) (crd_sq _ _) (by omega) (by omega) dX7_burnOn_52 (fun H locs hP hD hS => ?_)
                  have hP : va_P D vwCl [(mo, .inr (7, moV (nI nn) (nI mm) me mj mw mp mu (zb (ke = true)) bd ml (nI sq) mq fi gu le cs (zb (ba = true)) ov m1 m2 m3 m4 lk (zb (sp = true)) bs bo m5 m6 m7 su sl m8 lo sh)), (m8, .inl (cI, 3721, .inl (upd ((bxA (byA w (bb, false) Y) Y X).1) (61 * Y + X) 3)))] H := hP
                  have hD : va_D A [(mo, .inr (7, moV (nI nn) (nI mm) me mj mw mp mu (zb (ke = true)) bd ml (nI sq) mq fi gu le cs (zb (ba = true)) ov m1 m2 m3 m4 lk (zb (sp = true)) bs bo m5 m6 m7 su sl m8 lo sh)), (m8, .inl (cI, 3721, .inl (upd ((bxA (byA w (bb, false) Y) Y X).1) (61 * Y + X) 3)))] := hD
                  refine lv_iconst (v := 1) hx hb dX7_burnOn_53 (by decide) ?_
                  refine lv_istore_n (lv' := [(1, .int 1), (0, .ref mo), (2, .int (crd Y)), (3, .int (crd X))]) hx hb dX7_burnOn_54 rfl hl (by decide) rfl (fun ls hl => ?_)
                  refine lv_iinc (k := 3) (v := (crd X) + 1) (lv' := [(3, .int ((crd X) + 1)), (1, .int 1), (0, .ref mo), (2, .int (crd Y))]) hx hb dX7_burnOn_55 hl rfl rfl (by decide) rfl (fun ls hl => ?_)
                  refine lv_goto (tgt := 14) hx hb dX7_burnOn_58 (by decide) ?_
                  exact ih_lx (X + 1) (by omega) (by omega) ls _ _ (by rw [bxA, cellS, if_pos ⟨c_30, c_39⟩, ← crd_s]; exact lv_sub hl [2, 1, 3, 0] rfl) (by rw [bxA, cellS, if_pos ⟨c_30, c_39⟩]; exact hP) (by rw [bxA, cellS, if_pos ⟨c_30, c_39⟩]; exact hD) hS
        exact lx _ 0 (by omega) (Nat.lt_succ_self _) ls _ _ (lv_sub hl [1, 2, 3, 0] rfl) hP hD hS
  exact ly _ 0 (by omega) (Nat.lt_succ_self _) ls _ _ (lv_sub hl [2, 1, 0] rfl) hP hD hS

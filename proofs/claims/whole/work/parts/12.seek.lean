/-! the reference's search -/
def allN (n : Nat) : Nat := 2 ^ n - 1
theorem allN_le {n : Nat} (h : n ≤ 10) : allN n ≤ 1023 := by
  have : ∀ m, m < 11 → allN m ≤ 1023 := by decide
  exact this n (by omega)
theorem allI_nat {n : Nat} (h : n ≤ 10) : allI (nI n) = nI (allN n) := by
  have : ∀ m, m < 11 → allI (nI m) = nI (allN m) := by decide
  exact this n (by omega)
theorem i_clb {i : Int32} {n : Nat} (h : ¬ i < 0) (h2 : i ≤ nI n) (hn : n < 2 ^ 31) : i.toNatClampNeg ≤ n := by
  obtain ⟨j, hj, rfl⟩ := nI_of h
  rw [nI_clamp hj]
  exact (nI_leI hj hn).mp h2
theorem i_cl31 {i : Int32} (h : ¬ i < 0) : i.toNatClampNeg < 2 ^ 31 := by
  obtain ⟨j, hj, rfl⟩ := nI_of h
  rw [nI_clamp hj]
  exact hj
theorem r_dec {t : Nat} (h : 1 ≤ t) : nI t + Int32.ofInt (-1) = nI (t - 1) := by
  obtain ⟨k, rfl⟩ : ∃ k, t = k + 1 := ⟨t - 1, by omega⟩
  exact pk_m1 k
theorem nz_le {t : Nat} (h : nI t ≤ 0) (ht : t < 2 ^ 31) : t = 0 := by
  rcases Nat.eq_zero_or_pos t with q | q
  · exact q
  · exact absurd h (nI_nle q ht)
def fillP (n : Nat) (pr pz : Row) (k : Nat) : Row := fun j => if j < k then sumM pr (nI j) n else pz j
theorem fillP_0 (n : Nat) (pr pz : Row) : fillP n pr pz 0 = pz := by
  funext j
  simp [fillP]
theorem fillP_S (n : Nat) (pr pz : Row) (k : Nat) : fillP n pr pz (k + 1) = upd (fillP n pr pz k) k (sumM pr (nI k) n) := by
  funext j
  simp only [fillP, upd]
  by_cases hj : j = k
  · subst hj
    simp
  · rw [if_neg hj]
    by_cases h2 : j < k
    · rw [if_pos h2, if_pos (by omega)]
    · rw [if_neg h2, if_neg (by omega)]
def endL (n : Nat) (ne : Row) (gu : Int32) : Nat → Nat → Int32 → Option (Nat × Int32)
  | 0, _, _ => none
  | k + 1, o, f => if nearM n ne f gu = 0 then some (o, f) else endL n ne gu k (o + 1) (f ||| nearM n ne f gu)
def goN (n : Nat) (t : Nat) (tr fa ga : Row) : Int32 := ((tr t ||| ((allI (nI n) &&& (fa t ^^^ (-1)) &&& (ga t ^^^ (-1))) ^^^ (-1))) + 1) &&& (allI (nI n) &&& (fa t ^^^ (-1)) &&& (ga t ^^^ (-1)))
def goF (n : Nat) (t : Nat) (tr fa ga : Row) : Row := upd tr t (if goN n t tr fa ga = 0 then 1024 else goN n t tr fa ga)
def cmpF (tr bz : Row) (last k : Nat) : Row := fun j => if 1 ≤ j ∧ j ≤ k then (if j ≤ last then tr j else 0) else bz j
theorem cmpF_0 (tr bz : Row) (last : Nat) : cmpF tr bz last 0 = bz := by
  funext j
  simp only [cmpF]
  rw [if_neg (by omega)]
theorem cmpF_S1 {tr bz : Row} {last k : Nat} (h : k + 1 ≤ last) : cmpF tr bz last (k + 1) = upd (cmpF tr bz last k) (k + 1) (tr (k + 1)) := by
  funext j
  simp only [cmpF, upd]
  by_cases hj : j = k + 1
  · subst hj
    simp [h]
  · rw [if_neg hj]
    by_cases h2 : 1 ≤ j ∧ j ≤ k
    · rw [if_pos h2, if_pos (by omega)]
    · rw [if_neg h2, if_neg (by omega)]
theorem cmpF_S0 {tr bz : Row} {last k : Nat} (h : ¬ k + 1 ≤ last) : cmpF tr bz last (k + 1) = upd (cmpF tr bz last k) (k + 1) 0 := by
  funext j
  simp only [cmpF, upd]
  by_cases hj : j = k + 1
  · subst hj
    simp [h]
  · rw [if_neg hj]
    by_cases h2 : 1 ≤ j ∧ j ≤ k
    · rw [if_pos h2, if_pos (by omega)]
    · rw [if_neg h2, if_neg (by omega)]
/-- t, fire, guards, left, cost, looks, spent, bestSaved, bestOver, tried, fireAt, guardsAt, leftAt, bestSets -/
abbrev Km := Nat × Int32 × Int32 × Int32 × Int32 × Int32 × Bool × Int32 × Int32 × Row × Row × Row × Row × Row
def stepE (n : Nat) (pr ne wo : Row) (t : Nat) (cs lk : Int32) (sp : Bool) (bs bo : Int32) (tr fa ga la bz : Row) : Km :=
  if bs < savedM n wo (((endL n ne (ga t ||| tr t) 33 t (fa t)).getD (0, 0)).2 ||| nearM n ne ((endL n ne (ga t ||| tr t) 33 t (fa t)).getD (0, 0)).2 (ga t ||| tr t)) then
    (t, ((endL n ne (ga t ||| tr t) 33 t (fa t)).getD (0, 0)).2 ||| nearM n ne ((endL n ne (ga t ||| tr t) 33 t (fa t)).getD (0, 0)).2 (ga t ||| tr t), ga t ||| tr t, la t - sumM pr (tr t) n, cs + sumM pr (tr t) n, lk + 1, sp,
      savedM n wo (((endL n ne (ga t ||| tr t) 33 t (fa t)).getD (0, 0)).2 ||| nearM n ne ((endL n ne (ga t ||| tr t) 33 t (fa t)).getD (0, 0)).2 (ga t ||| tr t)), nI ((endL n ne (ga t ||| tr t) 33 t (fa t)).getD (0, 0)).1, goF n t tr fa ga, fa, ga, la, cmpF tr bz t 8)
  else (t, ((endL n ne (ga t ||| tr t) 33 t (fa t)).getD (0, 0)).2 ||| nearM n ne ((endL n ne (ga t ||| tr t) 33 t (fa t)).getD (0, 0)).2 (ga t ||| tr t), ga t ||| tr t, la t - sumM pr (tr t) n, cs + sumM pr (tr t) n, lk + 1, sp, bs, bo, goF n t tr fa ga, fa, ga, la, bz)
def stepK (n : Nat) (bd : Int32) (ow : Row) (ke : Bool) (pr ne wo pz : Row) (t : Nat) (cs lk : Int32) (sp : Bool) (bs bo : Int32) (tr fa ga la bz : Row) : Km :=
  if tr t ≤ allI (nI n) then
    if pz (tr t).toNatClampNeg ≤ la t then
      if lk = bd then (t, fa t, ga t, la t, cs, lk, true, bs, bo, tr, fa, ga, la, bz)
      else
        if ¬ nearM n ne (fa t) (ga t ||| tr t) = 0 ∧ t < 8 then
          (t + 1, fa t ||| nearM n ne (fa t) (ga t ||| tr t), ga t ||| tr t, fillM ow ke (t + 1) (la t - sumM pr (tr t) n), cs + sumM pr (tr t) n, lk + 1, sp, bs, bo,
            upd tr (t + 1) 0, upd fa (t + 1) (fa t ||| nearM n ne (fa t) (ga t ||| tr t)), upd ga (t + 1) (ga t ||| tr t), upd la (t + 1) (fillM ow ke (t + 1) (la t - sumM pr (tr t) n)), bz)
        else
          stepE n pr ne wo t cs lk sp bs bo tr fa ga la bz
    else (t, fa t, ga t, la t, cs, lk, sp, bs, bo, goF n t tr fa ga, fa, ga, la, bz)
  else (t - 1, fa t, ga t, la t, cs, lk, sp, bs, bo, goF n (t - 1) tr fa ga, fa, ga, la, bz)
def doneM (x : Km) : Prop := x.1 = 0 ∨ x.2.2.2.2.2.2.1 = true
theorem doneM_em (x : Km) : doneM x ∨ ¬ doneM x := Classical.em _
def okM (x : Km) : Prop := x.1 ≤ 8 ∧ ¬ x.2.2.2.2.2.2.2.2.2.1 x.1 < 0
def stepM (n : Nat) (bd : Int32) (ow : Row) (ke : Bool) (pr ne wo pz : Row) (x : Km) : Km :=
  if x.1 = 0 then x else if x.2.2.2.2.2.2.1 = true then x else
    stepK n bd ow ke pr ne wo pz x.1 x.2.2.2.2.1 x.2.2.2.2.2.1 x.2.2.2.2.2.2.1 x.2.2.2.2.2.2.2.1 x.2.2.2.2.2.2.2.2.1 x.2.2.2.2.2.2.2.2.2.1 x.2.2.2.2.2.2.2.2.2.2.1 x.2.2.2.2.2.2.2.2.2.2.2.1 x.2.2.2.2.2.2.2.2.2.2.2.2.1 x.2.2.2.2.2.2.2.2.2.2.2.2.2
def itM (n : Nat) (bd : Int32) (ow : Row) (ke : Bool) (pr ne wo pz : Row) (x : Km) : Nat → Km
  | 0 => x
  | k + 1 => stepM n bd ow ke pr ne wo pz (itM n bd ow ke pr ne wo pz x k)
theorem stepM_done {n : Nat} {bd : Int32} {ow : Row} {ke : Bool} {pr ne wo pz : Row} {x : Km} (h : doneM x) : stepM n bd ow ke pr ne wo pz x = x := by
  unfold stepM
  by_cases h1 : x.1 = 0
  · rw [if_pos h1]
  · rw [if_neg h1, if_pos (h.resolve_left h1)]
theorem itM_stop {n : Nat} {bd : Int32} {ow : Row} {ke : Bool} {pr ne wo pz : Row} {x : Km} {k : Nat} (h : doneM (itM n bd ow ke pr ne wo pz x k)) : ∀ j, itM n bd ow ke pr ne wo pz x (k + j) = itM n bd ow ke pr ne wo pz x k
  | 0 => rfl
  | j + 1 => by
    show stepM n bd ow ke pr ne wo pz (itM n bd ow ke pr ne wo pz x (k + j)) = _
    rw [itM_stop h j, stepM_done h]
def x0M (ow : Row) (ke : Bool) (fire : Int32) (tr fa ga la bz : Row) : Km := (1, fire, 0, fillM ow ke 1 0, 0, 0, false, -1, 0, upd tr 1 0, upd fa 1 fire, upd ga 1 0, upd la 1 (fillM ow ke 1 0), bz)
/-- the search comes to its end at y, and is safe on the way -/
def SeekTo (n : Nat) (bd : Int32) (ow : Row) (ke : Bool) (pr ne wo pz : Row) (x y : Km) : Prop :=
  ∃ N : Nat, y = itM n bd ow ke pr ne wo pz x N ∧ doneM (itM n bd ow ke pr ne wo pz x N) ∧ ∀ k, ¬ doneM (itM n bd ow ke pr ne wo pz x k) → okM (itM n bd ow ke pr ne wo pz x k)
theorem seek_lt {n : Nat} {bd : Int32} {ow : Row} {ke : Bool} {pr ne wo pz : Row} {x : Km} {k N : Nat} (hk : k ≤ N) (hN : doneM (itM n bd ow ke pr ne wo pz x N)) (h : ¬ doneM (itM n bd ow ke pr ne wo pz x k)) : k < N := by
  rcases Nat.lt_or_eq_of_le hk with q | q
  · exact q
  · exact absurd (q ▸ hN) h
/-- every burning comes to its end -/
def EndOK (n : Nat) (ne : Row) : Prop := ∀ (gu : Int32) (o : Nat) (f : Int32), ∃ e : Nat × Int32, endL n ne gu 33 o f = some e
/-- the search from any left-over state: what it comes to -/
def SeekAll (n : Nat) (bd : Int32) (ow : Row) (ke : Bool) (pr ne wo : Row) (fire rb rl : Int32) (rs : Bool) (ro : Int32) (rz : Row) : Prop :=
  ∀ (pz tr fa ga la bz : Row), ∃ y : Km, SeekTo n bd ow ke pr ne wo (fillP n pr pz (allN n + 1)) (x0M ow ke fire tr fa ga la bz) y ∧ y.2.2.2.2.2.2.2.1 = rb ∧ y.2.2.2.2.2.1 = rl ∧ y.2.2.2.2.2.2.1 = rs ∧ y.2.2.2.2.2.2.2.2.1 = ro ∧ ∀ t, 1 ≤ t → t ≤ 8 → y.2.2.2.2.2.2.2.2.2.2.2.2.2 t = rz t
def bestR (n : Nat) (rb rl : Int32) (rs : Bool) (ro : Int32) (rz : Row) (fire what : Int32) : Int32 := if 1 ≤ fire ∧ fire ≤ allI (nI n) then if 0 ≤ what ∧ what ≤ 11 then if what = 0 then rb else if what = 1 then rl else if what = 2 then if rs = true then 1 else 0 else if what = 3 then ro else rz (what - 3).toNatClampNeg else -1002 else -1002
def takeR (n : Nat) (rb fire : Int32) : Int32 := if 1 ≤ fire ∧ fire ≤ allI (nI n) then rb else -1002
def rmX7_keep : Room := { frames := 0, cells := 0, slots := 0, locals := 0 }
theorem kdX7_keep : yX7_keep.cls = RX7 ∧ yX7_keep.cls ≠ "java/lang/invoke/MethodHandle" ∧ yX7_keep.cls ≠ "java/lang/invoke/VarHandle" ∧ (parseMethodDescriptor yX7_keep.desc).map (fun d => d.parameters.length) = some 1 := ⟨rfl, by decide +kernel, by decide +kernel, by decide +kernel⟩
set_option maxRecDepth 100000 in
set_option maxHeartbeats 1000000 in
theorem kX7_keep (l : Launch) (D : va_G) (cI cJ : ClassId) (mo : Nat) (nn : Nat) (mm : Nat) (me : Nat) (mj : Nat) (mw : Nat) (mp : Nat) (mu : Nat) (ke : Bool) (bd : Int32) (ml : Nat) (sq : Nat) (mq : Nat) (fi : Int32) (gu : Int32) (le : Int32) (cs : Int32) (ba : Bool) (ov : Int32) (m1 : Nat) (m2 : Nat) (m3 : Nat) (m4 : Nat) (lk : Int32) (sp : Bool) (bs : Int32) (bo : Int32) (m5 : Nat) (m6 : Nat) (m7 : Nat) (su : Int32) (sl : Int32) (m8 : Nat) (lo : Int32) (sh : Int32) (tr : Row) (fa : Row) (ga : Row) (la : Row) (t : Nat) (ht : t < 10) : Met l yX7_keep wsX7_keep rmX7_keep (mPre D cI cJ [.ref mo, .int (nI t)] [(mo, .inr (7, moV (nI nn) (nI mm) me mj mw mp mu (zb (ke = true)) bd ml (nI sq) mq fi gu le cs (zb (ba = true)) ov m1 m2 m3 m4 lk (zb (sp = true)) bs bo m5 m6 m7 su sl m8 lo sh)), (m1, .inl (cI, 10, .inl tr)), (m2, .inl (cI, 10, .inl fa)), (m3, .inl (cI, 10, .inl ga)), (m4, .inl (cI, 10, .inl la))]) (mQv D (fun (_ : Unit) => True) (fun (_ : Unit) => [(mo, .inr (7, moV (nI nn) (nI mm) me mj mw mp mu (zb (ke = true)) bd ml (nI sq) mq fi gu le cs (zb (ba = true)) ov m1 m2 m3 m4 lk (zb (sp = true)) bs bo m5 m6 m7 su sl m8 lo sh)), (m1, .inl (cI, 10, .inl (upd tr t 0))), (m2, .inl (cI, 10, .inl (upd fa t fi))), (m3, .inl (cI, 10, .inl (upd ga t gu))), (m4, .inl (cI, 10, .inl (upd la t le)))]) [(mo, .inr (7, moV (nI nn) (nI mm) me mj mw mp mu (zb (ke = true)) bd ml (nI sq) mq fi gu le cs (zb (ba = true)) ov m1 m2 m3 m4 lk (zb (sp = true)) bs bo m5 m6 m7 su sl m8 lo sh)), (m1, .inl (cI, 10, .inl tr)), (m2, .inl (cI, 10, .inl fa)), (m3, .inl (cI, 10, .inl ga)), (m4, .inl (cI, 10, .inl la))]) 0 0 (mA [(mo, .inr (7, moV (nI nn) (nI mm) me mj mw mp mu (zb (ke = true)) bd ml (nI sq) mq fi gu le cs (zb (ba = true)) ov m1 m2 m3 m4 lk (zb (sp = true)) bs bo m5 m6 m7 su sl m8 lo sh)), (m1, .inl (cI, 10, .inl tr)), (m2, .inl (cI, 10, .inl fa)), (m3, .inl (cI, 10, .inl ga)), (m4, .inl (cI, 10, .inl la))]) := by
  refine startM (cc := cX7_keep) (maxL := 2) (ret := none) (by decide) rfl (Nat.le_of_ble_eq_true rfl) ?_
  intro p e s m args below meth c ls Q A hA hQ hx hb hr hlocks hml hown hts hK hN hP hD hl hin
  have hown : s.vm.findClass RX7 = some m.cls := hown
  have hi_7 : ∀ w ∈ wsX70, w ∈ wsX7_keep := by decide +kernel
  have hf_38 := hts (.fieldLink RX7 38 "FireNetsModel" "tried" "[I") (by decide +kernel)
  have hf_41 := hts (.fieldLink RX7 41 "FireNetsModel" "fireAt" "[I") (by decide +kernel)
  have hf_44 := hts (.fieldLink RX7 44 "FireNetsModel" "guardsAt" "[I") (by decide +kernel)
  have hf_47 := hts (.fieldLink RX7 47 "FireNetsModel" "leftAt" "[I") (by decide +kernel)
  have hf_103 := hts (.fieldLink RX7 103 "FireNetsModel" "fire" "I") (by decide +kernel)
  have hf_106 := hts (.fieldLink RX7 106 "FireNetsModel" "guards" "I") (by decide +kernel)
  have hf_109 := hts (.fieldLink RX7 109 "FireNetsModel" "left" "I") (by decide +kernel)
  have hS : va_S A s.heap s.heap [] := va_S.rf
  have hl : lv_has ls 2 [(0, .ref mo), (1, .int (nI t))] := hl
  have hP : va_P D vwCl [(mo, .inr (7, moV (nI nn) (nI mm) me mj mw mp mu (zb (ke = true)) bd ml (nI sq) mq fi gu le cs (zb (ba = true)) ov m1 m2 m3 m4 lk (zb (sp = true)) bs bo m5 m6 m7 su sl m8 lo sh)), (m1, .inl (cI, 10, .inl tr)), (m2, .inl (cI, 10, .inl fa)), (m3, .inl (cI, 10, .inl ga)), (m4, .inl (cI, 10, .inl la))] s.heap := hP
  refine lv_aload_n hx hb dX7_keep_0 rfl (lv_at hl 0 rfl) ?_
  refine va_get (D := D) (ci := 7) (v := .ref m2) (C := RX7) (T := TX7) (N := 34) hx hb hts hi_7 hown hK hP 0 rfl rfl 19 (by decide) hf_41 (fun _ h9 => h9) rfl dX7_keep_1 ?_
  refine lv_iload_n hx hb dX7_keep_4 rfl (lv_at hl 1 rfl) ?_
  refine lv_aload_n hx hb dX7_keep_5 rfl (lv_at hl 0 rfl) ?_
  refine va_get (D := D) (ci := 7) (v := .int fi) (C := RX7) (T := TX7) (N := 34) hx hb hts hi_7 hown hK hP 0 rfl rfl 12 (by decide) hf_103 (fun _ h9 => h9) rfl dX7_keep_6 ?_
  refine r_iast hx hb hK hP hD hS 2 rfl t rfl (by omega) (by omega) dX7_keep_9 (fun H locs hP hD hS => ?_)
  have hP : va_P D vwCl [(mo, .inr (7, moV (nI nn) (nI mm) me mj mw mp mu (zb (ke = true)) bd ml (nI sq) mq fi gu le cs (zb (ba = true)) ov m1 m2 m3 m4 lk (zb (sp = true)) bs bo m5 m6 m7 su sl m8 lo sh)), (m1, .inl (cI, 10, .inl tr)), (m2, .inl (cI, 10, .inl (upd fa t fi))), (m3, .inl (cI, 10, .inl ga)), (m4, .inl (cI, 10, .inl la))] H := hP
  have hD : va_D A [(mo, .inr (7, moV (nI nn) (nI mm) me mj mw mp mu (zb (ke = true)) bd ml (nI sq) mq fi gu le cs (zb (ba = true)) ov m1 m2 m3 m4 lk (zb (sp = true)) bs bo m5 m6 m7 su sl m8 lo sh)), (m1, .inl (cI, 10, .inl tr)), (m2, .inl (cI, 10, .inl (upd fa t fi))), (m3, .inl (cI, 10, .inl ga)), (m4, .inl (cI, 10, .inl la))] := hD
  refine lv_aload_n hx hb dX7_keep_10 rfl (lv_at hl 0 rfl) ?_
  refine va_get (D := D) (ci := 7) (v := .ref m3) (C := RX7) (T := TX7) (N := 34) hx hb hts hi_7 hown hK hP 0 rfl rfl 20 (by decide) hf_44 (fun _ h9 => h9) rfl dX7_keep_11 ?_
  refine lv_iload_n hx hb dX7_keep_14 rfl (lv_at hl 1 rfl) ?_
  refine lv_aload_n hx hb dX7_keep_15 rfl (lv_at hl 0 rfl) ?_
  refine va_get (D := D) (ci := 7) (v := .int gu) (C := RX7) (T := TX7) (N := 34) hx hb hts hi_7 hown hK hP 0 rfl rfl 13 (by decide) hf_106 (fun _ h9 => h9) rfl dX7_keep_16 ?_
  refine r_iast hx hb hK hP hD hS 3 rfl t rfl (by omega) (by omega) dX7_keep_19 (fun H locs hP hD hS => ?_)
  have hP : va_P D vwCl [(mo, .inr (7, moV (nI nn) (nI mm) me mj mw mp mu (zb (ke = true)) bd ml (nI sq) mq fi gu le cs (zb (ba = true)) ov m1 m2 m3 m4 lk (zb (sp = true)) bs bo m5 m6 m7 su sl m8 lo sh)), (m1, .inl (cI, 10, .inl tr)), (m2, .inl (cI, 10, .inl (upd fa t fi))), (m3, .inl (cI, 10, .inl (upd ga t gu))), (m4, .inl (cI, 10, .inl la))] H := hP
  have hD : va_D A [(mo, .inr (7, moV (nI nn) (nI mm) me mj mw mp mu (zb (ke = true)) bd ml (nI sq) mq fi gu le cs (zb (ba = true)) ov m1 m2 m3 m4 lk (zb (sp = true)) bs bo m5 m6 m7 su sl m8 lo sh)), (m1, .inl (cI, 10, .inl tr)), (m2, .inl (cI, 10, .inl (upd fa t fi))), (m3, .inl (cI, 10, .inl (upd ga t gu))), (m4, .inl (cI, 10, .inl la))] := hD
  refine lv_aload_n hx hb dX7_keep_20 rfl (lv_at hl 0 rfl) ?_
  refine va_get (D := D) (ci := 7) (v := .ref m4) (C := RX7) (T := TX7) (N := 34) hx hb hts hi_7 hown hK hP 0 rfl rfl 21 (by decide) hf_47 (fun _ h9 => h9) rfl dX7_keep_21 ?_
  refine lv_iload_n hx hb dX7_keep_24 rfl (lv_at hl 1 rfl) ?_
  refine lv_aload_n hx hb dX7_keep_25 rfl (lv_at hl 0 rfl) ?_
  refine va_get (D := D) (ci := 7) (v := .int le) (C := RX7) (T := TX7) (N := 34) hx hb hts hi_7 hown hK hP 0 rfl rfl 14 (by decide) hf_109 (fun _ h9 => h9) rfl dX7_keep_26 ?_
  refine r_iast hx hb hK hP hD hS 4 rfl t rfl (by omega) (by omega) dX7_keep_29 (fun H locs hP hD hS => ?_)
  have hP : va_P D vwCl [(mo, .inr (7, moV (nI nn) (nI mm) me mj mw mp mu (zb (ke = true)) bd ml (nI sq) mq fi gu le cs (zb (ba = true)) ov m1 m2 m3 m4 lk (zb (sp = true)) bs bo m5 m6 m7 su sl m8 lo sh)), (m1, .inl (cI, 10, .inl tr)), (m2, .inl (cI, 10, .inl (upd fa t fi))), (m3, .inl (cI, 10, .inl (upd ga t gu))), (m4, .inl (cI, 10, .inl (upd la t le)))] H := hP
  have hD : va_D A [(mo, .inr (7, moV (nI nn) (nI mm) me mj mw mp mu (zb (ke = true)) bd ml (nI sq) mq fi gu le cs (zb (ba = true)) ov m1 m2 m3 m4 lk (zb (sp = true)) bs bo m5 m6 m7 su sl m8 lo sh)), (m1, .inl (cI, 10, .inl tr)), (m2, .inl (cI, 10, .inl (upd fa t fi))), (m3, .inl (cI, 10, .inl (upd ga t gu))), (m4, .inl (cI, 10, .inl (upd la t le)))] := hD
  refine lv_aload_n hx hb dX7_keep_30 rfl (lv_at hl 0 rfl) ?_
  refine va_get (D := D) (ci := 7) (v := .ref m1) (C := RX7) (T := TX7) (N := 34) hx hb hts hi_7 hown hK hP 0 rfl rfl 18 (by decide) hf_38 (fun _ h9 => h9) rfl dX7_keep_31 ?_
  refine lv_iload_n hx hb dX7_keep_34 rfl (lv_at hl 1 rfl) ?_
  refine lv_iconst (v := 0) hx hb dX7_keep_35 (by decide) ?_
  refine r_iast hx hb hK hP hD hS 1 rfl t rfl (by omega) (by omega) dX7_keep_36 (fun H locs hP hD hS => ?_)
  have hP : va_P D vwCl [(mo, .inr (7, moV (nI nn) (nI mm) me mj mw mp mu (zb (ke = true)) bd ml (nI sq) mq fi gu le cs (zb (ba = true)) ov m1 m2 m3 m4 lk (zb (sp = true)) bs bo m5 m6 m7 su sl m8 lo sh)), (m1, .inl (cI, 10, .inl (upd tr t 0))), (m2, .inl (cI, 10, .inl (upd fa t fi))), (m3, .inl (cI, 10, .inl (upd ga t gu))), (m4, .inl (cI, 10, .inl (upd la t le)))] H := hP
  have hD : va_D A [(mo, .inr (7, moV (nI nn) (nI mm) me mj mw mp mu (zb (ke = true)) bd ml (nI sq) mq fi gu le cs (zb (ba = true)) ov m1 m2 m3 m4 lk (zb (sp = true)) bs bo m5 m6 m7 su sl m8 lo sh)), (m1, .inl (cI, 10, .inl (upd tr t 0))), (m2, .inl (cI, 10, .inl (upd fa t fi))), (m3, .inl (cI, 10, .inl (upd ga t gu))), (m4, .inl (cI, 10, .inl (upd la t le)))] := hD
  exact endMV () hx hb hr hlocks hA hQ hS hP dX7_keep_37 rfl trivial
def rmX7_restore : Room := { frames := 0, cells := 0, slots := 0, locals := 0 }
theorem kdX7_restore : yX7_restore.cls = RX7 ∧ yX7_restore.cls ≠ "java/lang/invoke/MethodHandle" ∧ yX7_restore.cls ≠ "java/lang/invoke/VarHandle" ∧ (parseMethodDescriptor yX7_restore.desc).map (fun d => d.parameters.length) = some 1 := ⟨rfl, by decide +kernel, by decide +kernel, by decide +kernel⟩
set_option maxRecDepth 100000 in
set_option maxHeartbeats 1000000 in
theorem kX7_restore (l : Launch) (D : va_G) (cI cJ : ClassId) (mo : Nat) (nn : Nat) (mm : Nat) (me : Nat) (mj : Nat) (mw : Nat) (mp : Nat) (mu : Nat) (ke : Bool) (bd : Int32) (ml : Nat) (sq : Nat) (mq : Nat) (fi : Int32) (gu : Int32) (le : Int32) (cs : Int32) (ba : Bool) (ov : Int32) (m1 : Nat) (m2 : Nat) (m3 : Nat) (m4 : Nat) (lk : Int32) (sp : Bool) (bs : Int32) (bo : Int32) (m5 : Nat) (m6 : Nat) (m7 : Nat) (su : Int32) (sl : Int32) (m8 : Nat) (lo : Int32) (sh : Int32) (fa : Row) (ga : Row) (la : Row) (t : Nat) (ht : t < 10) : Met l yX7_restore wsX7_restore rmX7_restore (mPre D cI cJ [.ref mo, .int (nI t)] [(mo, .inr (7, moV (nI nn) (nI mm) me mj mw mp mu (zb (ke = true)) bd ml (nI sq) mq fi gu le cs (zb (ba = true)) ov m1 m2 m3 m4 lk (zb (sp = true)) bs bo m5 m6 m7 su sl m8 lo sh)), (m2, .inl (cI, 10, .inl fa)), (m3, .inl (cI, 10, .inl ga)), (m4, .inl (cI, 10, .inl la))]) (mQv D (fun (_ : Unit) => True) (fun (_ : Unit) => [(mo, .inr (7, moV (nI nn) (nI mm) me mj mw mp mu (zb (ke = true)) bd ml (nI sq) mq (fa t) (ga t) (la t) cs (zb (ba = true)) ov m1 m2 m3 m4 lk (zb (sp = true)) bs bo m5 m6 m7 su sl m8 lo sh)), (m2, .inl (cI, 10, .inl fa)), (m3, .inl (cI, 10, .inl ga)), (m4, .inl (cI, 10, .inl la))]) [(mo, .inr (7, moV (nI nn) (nI mm) me mj mw mp mu (zb (ke = true)) bd ml (nI sq) mq fi gu le cs (zb (ba = true)) ov m1 m2 m3 m4 lk (zb (sp = true)) bs bo m5 m6 m7 su sl m8 lo sh)), (m2, .inl (cI, 10, .inl fa)), (m3, .inl (cI, 10, .inl ga)), (m4, .inl (cI, 10, .inl la))]) 0 0 (mA [(mo, .inr (7, moV (nI nn) (nI mm) me mj mw mp mu (zb (ke = true)) bd ml (nI sq) mq fi gu le cs (zb (ba = true)) ov m1 m2 m3 m4 lk (zb (sp = true)) bs bo m5 m6 m7 su sl m8 lo sh)), (m2, .inl (cI, 10, .inl fa)), (m3, .inl (cI, 10, .inl ga)), (m4, .inl (cI, 10, .inl la))]) := by
  refine startM (cc := cX7_restore) (maxL := 2) (ret := none) (by decide) rfl (Nat.le_of_ble_eq_true rfl) ?_
  intro p e s m args below meth c ls Q A hA hQ hx hb hr hlocks hml hown hts hK hN hP hD hl hin
  have hown : s.vm.findClass RX7 = some m.cls := hown
  have hi_7 : ∀ w ∈ wsX70, w ∈ wsX7_restore := by decide +kernel
  have hf_41 := hts (.fieldLink RX7 41 "FireNetsModel" "fireAt" "[I") (by decide +kernel)
  have hf_44 := hts (.fieldLink RX7 44 "FireNetsModel" "guardsAt" "[I") (by decide +kernel)
  have hf_47 := hts (.fieldLink RX7 47 "FireNetsModel" "leftAt" "[I") (by decide +kernel)
  have hf_103 := hts (.fieldLink RX7 103 "FireNetsModel" "fire" "I") (by decide +kernel)
  have hf_106 := hts (.fieldLink RX7 106 "FireNetsModel" "guards" "I") (by decide +kernel)
  have hf_109 := hts (.fieldLink RX7 109 "FireNetsModel" "left" "I") (by decide +kernel)
  have hS : va_S A s.heap s.heap [] := va_S.rf
  have hl : lv_has ls 2 [(0, .ref mo), (1, .int (nI t))] := hl
  have hP : va_P D vwCl [(mo, .inr (7, moV (nI nn) (nI mm) me mj mw mp mu (zb (ke = true)) bd ml (nI sq) mq fi gu le cs (zb (ba = true)) ov m1 m2 m3 m4 lk (zb (sp = true)) bs bo m5 m6 m7 su sl m8 lo sh)), (m2, .inl (cI, 10, .inl fa)), (m3, .inl (cI, 10, .inl ga)), (m4, .inl (cI, 10, .inl la))] s.heap := hP
  refine lv_aload_n hx hb dX7_restore_0 rfl (lv_at hl 0 rfl) ?_
  refine lv_aload_n hx hb dX7_restore_1 rfl (lv_at hl 0 rfl) ?_
  refine va_get (D := D) (ci := 7) (v := .ref m2) (C := RX7) (T := TX7) (N := 34) hx hb hts hi_7 hown hK hP 0 rfl rfl 19 (by decide) hf_41 (fun _ h9 => h9) rfl dX7_restore_2 ?_
  refine lv_iload_n hx hb dX7_restore_5 rfl (lv_at hl 1 rfl) ?_
  refine r_iald hx hb hK hP 1 rfl t rfl (by omega) (by omega) dX7_restore_6 ?_
  refine va_put (D := D) (ci := 7) (v := .int (fa t)) (ty := .int) (C := RX7) (T := TX7) (N := 34) hx hb hts hi_7 tyX7 tyX7_ok nmX7 hown hK hP hD hS 0 rfl rfl 12 (by decide) hf_103 (fun _ h9 => h9) rfl (by decide +kernel) rfl rfl (Nat.le_of_ble_eq_true rfl) dX7_restore_7 (fun H locs hP hD hS => ?_)
  have hP : va_P D vwCl [(mo, .inr (7, moV (nI nn) (nI mm) me mj mw mp mu (zb (ke = true)) bd ml (nI sq) mq (fa t) gu le cs (zb (ba = true)) ov m1 m2 m3 m4 lk (zb (sp = true)) bs bo m5 m6 m7 su sl m8 lo sh)), (m2, .inl (cI, 10, .inl fa)), (m3, .inl (cI, 10, .inl ga)), (m4, .inl (cI, 10, .inl la))] H := hP
  have hD : va_D A [(mo, .inr (7, moV (nI nn) (nI mm) me mj mw mp mu (zb (ke = true)) bd ml (nI sq) mq (fa t) gu le cs (zb (ba = true)) ov m1 m2 m3 m4 lk (zb (sp = true)) bs bo m5 m6 m7 su sl m8 lo sh)), (m2, .inl (cI, 10, .inl fa)), (m3, .inl (cI, 10, .inl ga)), (m4, .inl (cI, 10, .inl la))] := hD
  refine lv_aload_n hx hb dX7_restore_10 rfl (lv_at hl 0 rfl) ?_
  refine lv_aload_n hx hb dX7_restore_11 rfl (lv_at hl 0 rfl) ?_
  refine va_get (D := D) (ci := 7) (v := .ref m3) (C := RX7) (T := TX7) (N := 34) hx hb hts hi_7 hown hK hP 0 rfl rfl 20 (by decide) hf_44 (fun _ h9 => h9) rfl dX7_restore_12 ?_
  refine lv_iload_n hx hb dX7_restore_15 rfl (lv_at hl 1 rfl) ?_
  refine r_iald hx hb hK hP 2 rfl t rfl (by omega) (by omega) dX7_restore_16 ?_
  refine va_put (D := D) (ci := 7) (v := .int (ga t)) (ty := .int) (C := RX7) (T := TX7) (N := 34) hx hb hts hi_7 tyX7 tyX7_ok nmX7 hown hK hP hD hS 0 rfl rfl 13 (by decide) hf_106 (fun _ h9 => h9) rfl (by decide +kernel) rfl rfl (Nat.le_of_ble_eq_true rfl) dX7_restore_17 (fun H locs hP hD hS => ?_)
  have hP : va_P D vwCl [(mo, .inr (7, moV (nI nn) (nI mm) me mj mw mp mu (zb (ke = true)) bd ml (nI sq) mq (fa t) (ga t) le cs (zb (ba = true)) ov m1 m2 m3 m4 lk (zb (sp = true)) bs bo m5 m6 m7 su sl m8 lo sh)), (m2, .inl (cI, 10, .inl fa)), (m3, .inl (cI, 10, .inl ga)), (m4, .inl (cI, 10, .inl la))] H := hP
  have hD : va_D A [(mo, .inr (7, moV (nI nn) (nI mm) me mj mw mp mu (zb (ke = true)) bd ml (nI sq) mq (fa t) (ga t) le cs (zb (ba = true)) ov m1 m2 m3 m4 lk (zb (sp = true)) bs bo m5 m6 m7 su sl m8 lo sh)), (m2, .inl (cI, 10, .inl fa)), (m3, .inl (cI, 10, .inl ga)), (m4, .inl (cI, 10, .inl la))] := hD
  refine lv_aload_n hx hb dX7_restore_20 rfl (lv_at hl 0 rfl) ?_
  refine lv_aload_n hx hb dX7_restore_21 rfl (lv_at hl 0 rfl) ?_
  refine va_get (D := D) (ci := 7) (v := .ref m4) (C := RX7) (T := TX7) (N := 34) hx hb hts hi_7 hown hK hP 0 rfl rfl 21 (by decide) hf_47 (fun _ h9 => h9) rfl dX7_restore_22 ?_
  refine lv_iload_n hx hb dX7_restore_25 rfl (lv_at hl 1 rfl) ?_
  refine r_iald hx hb hK hP 3 rfl t rfl (by omega) (by omega) dX7_restore_26 ?_
  refine va_put (D := D) (ci := 7) (v := .int (la t)) (ty := .int) (C := RX7) (T := TX7) (N := 34) hx hb hts hi_7 tyX7 tyX7_ok nmX7 hown hK hP hD hS 0 rfl rfl 14 (by decide) hf_109 (fun _ h9 => h9) rfl (by decide +kernel) rfl rfl (Nat.le_of_ble_eq_true rfl) dX7_restore_27 (fun H locs hP hD hS => ?_)
  have hP : va_P D vwCl [(mo, .inr (7, moV (nI nn) (nI mm) me mj mw mp mu (zb (ke = true)) bd ml (nI sq) mq (fa t) (ga t) (la t) cs (zb (ba = true)) ov m1 m2 m3 m4 lk (zb (sp = true)) bs bo m5 m6 m7 su sl m8 lo sh)), (m2, .inl (cI, 10, .inl fa)), (m3, .inl (cI, 10, .inl ga)), (m4, .inl (cI, 10, .inl la))] H := hP
  have hD : va_D A [(mo, .inr (7, moV (nI nn) (nI mm) me mj mw mp mu (zb (ke = true)) bd ml (nI sq) mq (fa t) (ga t) (la t) cs (zb (ba = true)) ov m1 m2 m3 m4 lk (zb (sp = true)) bs bo m5 m6 m7 su sl m8 lo sh)), (m2, .inl (cI, 10, .inl fa)), (m3, .inl (cI, 10, .inl ga)), (m4, .inl (cI, 10, .inl la))] := hD
  exact endMV () hx hb hr hlocks hA hQ hS hP dX7_restore_30 rfl trivial
def rmX7_goOn : Room := { frames := 1, cells := 0, slots := 0, locals := 20 }
theorem kdX7_goOn : yX7_goOn.cls = RX7 ∧ yX7_goOn.cls ≠ "java/lang/invoke/MethodHandle" ∧ yX7_goOn.cls ≠ "java/lang/invoke/VarHandle" ∧ (parseMethodDescriptor yX7_goOn.desc).map (fun d => d.parameters.length) = some 1 := ⟨rfl, by decide +kernel, by decide +kernel, by decide +kernel⟩
set_option maxRecDepth 100000 in
set_option maxHeartbeats 1000000 in
theorem kX7_goOn (l : Launch) (D : va_G) (cI cJ : ClassId) (mo : Nat) (nn : Nat) (mm : Nat) (me : Nat) (mj : Nat) (mw : Nat) (mp : Nat) (mu : Nat) (ke : Bool) (bd : Int32) (ml : Nat) (sq : Nat) (mq : Nat) (fi : Int32) (gu : Int32) (le : Int32) (cs : Int32) (ba : Bool) (ov : Int32) (m1 : Nat) (m2 : Nat) (m3 : Nat) (m4 : Nat) (lk : Int32) (sp : Bool) (bs : Int32) (bo : Int32) (m5 : Nat) (m6 : Nat) (m7 : Nat) (su : Int32) (sl : Int32) (m8 : Nat) (lo : Int32) (sh : Int32) (tr : Row) (fa : Row) (ga : Row) (t : Nat) (ht : t < 10) : Met l yX7_goOn wsX7_goOn rmX7_goOn (mPre D cI cJ [.ref mo, .int (nI t)] [(mo, .inr (7, moV (nI nn) (nI mm) me mj mw mp mu (zb (ke = true)) bd ml (nI sq) mq fi gu le cs (zb (ba = true)) ov m1 m2 m3 m4 lk (zb (sp = true)) bs bo m5 m6 m7 su sl m8 lo sh)), (m1, .inl (cI, 10, .inl tr)), (m2, .inl (cI, 10, .inl fa)), (m3, .inl (cI, 10, .inl ga))]) (mQv D (fun (_ : Unit) => True) (fun (_ : Unit) => [(mo, .inr (7, moV (nI nn) (nI mm) me mj mw mp mu (zb (ke = true)) bd ml (nI sq) mq fi gu le cs (zb (ba = true)) ov m1 m2 m3 m4 lk (zb (sp = true)) bs bo m5 m6 m7 su sl m8 lo sh)), (m1, .inl (cI, 10, .inl (goF nn t tr fa ga))), (m2, .inl (cI, 10, .inl fa)), (m3, .inl (cI, 10, .inl ga))]) [(mo, .inr (7, moV (nI nn) (nI mm) me mj mw mp mu (zb (ke = true)) bd ml (nI sq) mq fi gu le cs (zb (ba = true)) ov m1 m2 m3 m4 lk (zb (sp = true)) bs bo m5 m6 m7 su sl m8 lo sh)), (m1, .inl (cI, 10, .inl tr)), (m2, .inl (cI, 10, .inl fa)), (m3, .inl (cI, 10, .inl ga))]) 0 0 (mA [(mo, .inr (7, moV (nI nn) (nI mm) me mj mw mp mu (zb (ke = true)) bd ml (nI sq) mq fi gu le cs (zb (ba = true)) ov m1 m2 m3 m4 lk (zb (sp = true)) bs bo m5 m6 m7 su sl m8 lo sh)), (m1, .inl (cI, 10, .inl tr)), (m2, .inl (cI, 10, .inl fa)), (m3, .inl (cI, 10, .inl ga))]) := by
  refine startM (cc := cX7_goOn) (maxL := 4) (ret := none) (by decide) rfl (Nat.le_of_ble_eq_true rfl) ?_
  intro p e s m args below meth c ls Q A hA hQ hx hb hr hlocks hml hown hts hK hN hP hD hl hin
  have hown : s.vm.findClass RX7 = some m.cls := hown
  have hi_7 : ∀ w ∈ wsX70, w ∈ wsX7_goOn := by decide +kernel
  have hf_38 := hts (.fieldLink RX7 38 "FireNetsModel" "tried" "[I") (by decide +kernel)
  have hf_41 := hts (.fieldLink RX7 41 "FireNetsModel" "fireAt" "[I") (by decide +kernel)
  have hf_44 := hts (.fieldLink RX7 44 "FireNetsModel" "guardsAt" "[I") (by decide +kernel)
  have hS : va_S A s.heap s.heap [] := va_S.rf
  have hl : lv_has ls 4 [(0, .ref mo), (1, .int (nI t))] := hl
  have hP : va_P D vwCl [(mo, .inr (7, moV (nI nn) (nI mm) me mj mw mp mu (zb (ke = true)) bd ml (nI sq) mq fi gu le cs (zb (ba = true)) ov m1 m2 m3 m4 lk (zb (sp = true)) bs bo m5 m6 m7 su sl m8 lo sh)), (m1, .inl (cI, 10, .inl tr)), (m2, .inl (cI, 10, .inl fa)), (m3, .inl (cI, 10, .inl ga))] s.heap := hP
  refine lv_aload_n hx hb dX7_goOn_0 rfl (lv_at hl 0 rfl) ?_
  refine goRI hP hS (va_runV (As := []) (rest := []) ⟨hx, hb, hml, hown, hts⟩ (kX7_all l D cI cJ mo nn mm me mj mw mp mu ke bd ml sq mq fi gu le cs ba ov m1 m2 m3 m4 lk sp bs bo m5 m6 m7 su sl m8 lo sh) (cwV 0 hts gX7_goOn_X7_all rfl rfl rfl kdX7_all ⟨Nat.le_of_ble_eq_true rfl, Nat.le_of_ble_eq_true rfl⟩) (preRV hK hN hP 0 (ci := 7) rfl rfl rfl [0] rfl) rfl rfl hl.1 rfl (lv_room (Nat.le_of_ble_eq_true rfl)) dX7_goOn_1 ⟨Nat.zero_le _, Nat.zero_le _⟩) (fun H locs hP hS => ?_)
  refine lv_aload_n hx hb dX7_goOn_4 rfl (lv_at hl 0 rfl) ?_
  refine va_get (D := D) (ci := 7) (v := .ref m2) (C := RX7) (T := TX7) (N := 34) hx hb hts hi_7 hown hK hP 0 rfl rfl 19 (by decide) hf_41 (fun _ h9 => h9) rfl dX7_goOn_5 ?_
  refine lv_iload_n hx hb dX7_goOn_8 rfl (lv_at hl 1 rfl) ?_
  refine r_iald hx hb hK hP 2 rfl t rfl (by omega) (by omega) dX7_goOn_9 ?_
  refine lv_iconst (v := (-1)) hx hb dX7_goOn_10 (by decide) ?_
  refine lv_ixor hx hb dX7_goOn_11 ?_
  refine lv_iand hx hb dX7_goOn_12 ?_
  refine lv_aload_n hx hb dX7_goOn_13 rfl (lv_at hl 0 rfl) ?_
  refine va_get (D := D) (ci := 7) (v := .ref m3) (C := RX7) (T := TX7) (N := 34) hx hb hts hi_7 hown hK hP 0 rfl rfl 20 (by decide) hf_44 (fun _ h9 => h9) rfl dX7_goOn_14 ?_
  refine lv_iload_n hx hb dX7_goOn_17 rfl (lv_at hl 1 rfl) ?_
  refine r_iald hx hb hK hP 3 rfl t rfl (by omega) (by omega) dX7_goOn_18 ?_
  refine lv_iconst (v := (-1)) hx hb dX7_goOn_19 (by decide) ?_
  refine lv_ixor hx hb dX7_goOn_20 ?_
  refine lv_iand hx hb dX7_goOn_21 ?_
  refine lv_istore_n (lv' := [(2, .int (((allI (nI nn)) &&& ((fa t) ^^^ (-1))) &&& ((ga t) ^^^ (-1)))), (0, .ref mo), (1, .int (nI t))]) hx hb dX7_goOn_22 rfl hl (by decide) rfl (fun ls hl => ?_)
  refine lv_aload_n hx hb dX7_goOn_23 rfl (lv_at hl 1 rfl) ?_
  refine va_get (D := D) (ci := 7) (v := .ref m1) (C := RX7) (T := TX7) (N := 34) hx hb hts hi_7 hown hK hP 0 rfl rfl 18 (by decide) hf_38 (fun _ h9 => h9) rfl dX7_goOn_24 ?_
  refine lv_iload_n hx hb dX7_goOn_27 rfl (lv_at hl 2 rfl) ?_
  refine r_iald hx hb hK hP 1 rfl t rfl (by omega) (by omega) dX7_goOn_28 ?_
  refine lv_iload_n hx hb dX7_goOn_29 rfl (lv_at hl 0 rfl) ?_
  refine lv_iconst (v := (-1)) hx hb dX7_goOn_30 (by decide) ?_
  refine lv_ixor hx hb dX7_goOn_31 ?_
  refine lv_ior hx hb dX7_goOn_32 ?_
  refine lv_iconst (v := 1) hx hb dX7_goOn_33 (by decide) ?_
  refine lv_iadd hx hb dX7_goOn_34 ?_
  refine lv_iload_n hx hb dX7_goOn_35 rfl (lv_at hl 0 rfl) ?_
  refine lv_iand hx hb dX7_goOn_36 ?_
  refine lv_istore_n (lv' := [(3, .int ((((tr t) ||| ((((allI (nI nn)) &&& ((fa t) ^^^ (-1))) &&& ((ga t) ^^^ (-1))) ^^^ (-1))) + 1) &&& (((allI (nI nn)) &&& ((fa t) ^^^ (-1))) &&& ((ga t) ^^^ (-1))))), (2, .int (((allI (nI nn)) &&& ((fa t) ^^^ (-1))) &&& ((ga t) ^^^ (-1)))), (0, .ref mo), (1, .int (nI t))]) hx hb dX7_goOn_37 rfl hl (by decide) rfl (fun ls hl => ?_)
  refine lv_aload_n hx hb dX7_goOn_38 rfl (lv_at hl 2 rfl) ?_
  refine va_get (D := D) (ci := 7) (v := .ref m1) (C := RX7) (T := TX7) (N := 34) hx hb hts hi_7 hown hK hP 0 rfl rfl 18 (by decide) hf_38 (fun _ h9 => h9) rfl dX7_goOn_39 ?_
  refine lv_iload_n hx hb dX7_goOn_42 rfl (lv_at hl 3 rfl) ?_
  refine lv_iload_n hx hb dX7_goOn_43 rfl (lv_at hl 0 rfl) ?_
  refine lv_if_ne (tgt := 53) hx hb dX7_goOn_44 (by decide) (fun c_44 => ?_) (fun c_44 => ?_)
  · refine lv_iload_n hx hb dX7_goOn_53 rfl (lv_at hl 0 rfl) ?_
    refine r_iast hx hb hK hP hD hS 1 rfl t rfl (by omega) (by omega) dX7_goOn_54 (fun H locs hP hD hS => ?_)
    have hP : va_P D vwCl [(mo, .inr (7, moV (nI nn) (nI mm) me mj mw mp mu (zb (ke = true)) bd ml (nI sq) mq fi gu le cs (zb (ba = true)) ov m1 m2 m3 m4 lk (zb (sp = true)) bs bo m5 m6 m7 su sl m8 lo sh)), (m1, .inl (cI, 10, .inl (upd tr t ((((tr t) ||| ((((allI (nI nn)) &&& ((fa t) ^^^ (-1))) &&& ((ga t) ^^^ (-1))) ^^^ (-1))) + 1) &&& (((allI (nI nn)) &&& ((fa t) ^^^ (-1))) &&& ((ga t) ^^^ (-1))))))), (m2, .inl (cI, 10, .inl fa)), (m3, .inl (cI, 10, .inl ga))] H := hP
    have hD : va_D A [(mo, .inr (7, moV (nI nn) (nI mm) me mj mw mp mu (zb (ke = true)) bd ml (nI sq) mq fi gu le cs (zb (ba = true)) ov m1 m2 m3 m4 lk (zb (sp = true)) bs bo m5 m6 m7 su sl m8 lo sh)), (m1, .inl (cI, 10, .inl (upd tr t ((((tr t) ||| ((((allI (nI nn)) &&& ((fa t) ^^^ (-1))) &&& ((ga t) ^^^ (-1))) ^^^ (-1))) + 1) &&& (((allI (nI nn)) &&& ((fa t) ^^^ (-1))) &&& ((ga t) ^^^ (-1))))))), (m2, .inl (cI, 10, .inl fa)), (m3, .inl (cI, 10, .inl ga))] := hD
    exact endMV () hx hb hr hlocks hA hQ hS hP dX7_goOn_55 (by rw [goF, if_neg (show ¬ goN nn t tr fa ga = 0 from c_44)]; rfl) trivial
  · refine lv_sipush (v := 1024) hx hb dX7_goOn_47 (by decide) ?_
    refine lv_goto (tgt := 54) hx hb dX7_goOn_50 (by decide) ?_
    refine r_iast hx hb hK hP hD hS 1 rfl t rfl (by omega) (by omega) dX7_goOn_54 (fun H locs hP hD hS => ?_)
    have hP : va_P D vwCl [(mo, .inr (7, moV (nI nn) (nI mm) me mj mw mp mu (zb (ke = true)) bd ml (nI sq) mq fi gu le cs (zb (ba = true)) ov m1 m2 m3 m4 lk (zb (sp = true)) bs bo m5 m6 m7 su sl m8 lo sh)), (m1, .inl (cI, 10, .inl (upd tr t 1024))), (m2, .inl (cI, 10, .inl fa)), (m3, .inl (cI, 10, .inl ga))] H := hP
    have hD : va_D A [(mo, .inr (7, moV (nI nn) (nI mm) me mj mw mp mu (zb (ke = true)) bd ml (nI sq) mq fi gu le cs (zb (ba = true)) ov m1 m2 m3 m4 lk (zb (sp = true)) bs bo m5 m6 m7 su sl m8 lo sh)), (m1, .inl (cI, 10, .inl (upd tr t 1024))), (m2, .inl (cI, 10, .inl fa)), (m3, .inl (cI, 10, .inl ga))] := hD
    exact endMV () hx hb hr hlocks hA hQ hS hP dX7_goOn_55 (by rw [goF, if_pos (show goN nn t tr fa ga = 0 from c_44)]) trivial
def rmX7_compare : Room := { frames := 2, cells := 0, slots := 0, locals := 43 }
theorem kdX7_compare : yX7_compare.cls = RX7 ∧ yX7_compare.cls ≠ "java/lang/invoke/MethodHandle" ∧ yX7_compare.cls ≠ "java/lang/invoke/VarHandle" ∧ (parseMethodDescriptor yX7_compare.desc).map (fun d => d.parameters.length) = some 2 := ⟨rfl, by decide +kernel, by decide +kernel, by decide +kernel⟩
set_option maxRecDepth 100000 in
set_option maxHeartbeats 1000000 in
theorem kX7_compare (l : Launch) (D : va_G) (cI cJ : ClassId) (mo : Nat) (nn : Nat) (mm : Nat) (me : Nat) (mj : Nat) (mw : Nat) (mp : Nat) (mu : Nat) (ke : Bool) (bd : Int32) (ml : Nat) (sq : Nat) (mq : Nat) (fi : Int32) (gu : Int32) (le : Int32) (cs : Int32) (ba : Bool) (ov : Int32) (m1 : Nat) (m2 : Nat) (m3 : Nat) (m4 : Nat) (lk : Int32) (sp : Bool) (bs : Int32) (bo : Int32) (m5 : Nat) (m6 : Nat) (m7 : Nat) (su : Int32) (sl : Int32) (m8 : Nat) (lo : Int32) (sh : Int32) (wo : Row) (tr : Row) (bz : Row) (o t : Nat) (hn10 : nn ≤ 10) (ht : t ≤ 8) : Met l yX7_compare wsX7_compare rmX7_compare (mPre D cI cJ [.ref mo, .int (nI o), .int (nI t)] [(mo, .inr (7, moV (nI nn) (nI mm) me mj mw mp mu (zb (ke = true)) bd ml (nI sq) mq fi gu le cs (zb (ba = true)) ov m1 m2 m3 m4 lk (zb (sp = true)) bs bo m5 m6 m7 su sl m8 lo sh)), (mw, .inl (cI, 10, .inl wo)), (m1, .inl (cI, 10, .inl tr)), (m5, .inl (cI, 9, .inl bz))]) (mQv D (fun (_ : Unit) => True) (fun (_ : Unit) => [(mo, .inr (7, moV (nI nn) (nI mm) me mj mw mp mu (zb (ke = true)) bd ml (nI sq) mq fi gu le cs (zb (ba = true)) ov m1 m2 m3 m4 lk (zb (sp = true)) (if bs < savedM nn wo fi then savedM nn wo fi else bs) (if bs < savedM nn wo fi then nI o else bo) m5 m6 m7 su sl m8 lo sh)), (mw, .inl (cI, 10, .inl wo)), (m1, .inl (cI, 10, .inl tr)), (m5, .inl (cI, 9, .inl (if bs < savedM nn wo fi then cmpF tr bz t 8 else bz)))]) [(mo, .inr (7, moV (nI nn) (nI mm) me mj mw mp mu (zb (ke = true)) bd ml (nI sq) mq fi gu le cs (zb (ba = true)) ov m1 m2 m3 m4 lk (zb (sp = true)) bs bo m5 m6 m7 su sl m8 lo sh)), (mw, .inl (cI, 10, .inl wo)), (m1, .inl (cI, 10, .inl tr)), (m5, .inl (cI, 9, .inl bz))]) 0 0 (mA [(mo, .inr (7, moV (nI nn) (nI mm) me mj mw mp mu (zb (ke = true)) bd ml (nI sq) mq fi gu le cs (zb (ba = true)) ov m1 m2 m3 m4 lk (zb (sp = true)) bs bo m5 m6 m7 su sl m8 lo sh)), (mw, .inl (cI, 10, .inl wo)), (m1, .inl (cI, 10, .inl tr)), (m5, .inl (cI, 9, .inl bz))]) := by
  refine startM (cc := cX7_compare) (maxL := 4) (ret := none) (by decide) rfl (Nat.le_of_ble_eq_true rfl) ?_
  intro p e s m args below meth c ls Q A hA hQ hx hb hr hlocks hml hown hts hK hN hP hD hl hin
  have hown : s.vm.findClass RX7 = some m.cls := hown
  have hi_7 : ∀ w ∈ wsX70, w ∈ wsX7_compare := by decide +kernel
  have hf_38 := hts (.fieldLink RX7 38 "FireNetsModel" "tried" "[I") (by decide +kernel)
  have hf_50 := hts (.fieldLink RX7 50 "FireNetsModel" "bestSets" "[I") (by decide +kernel)
  have hf_158 := hts (.fieldLink RX7 158 "FireNetsModel" "bestSaved" "I") (by decide +kernel)
  have hf_161 := hts (.fieldLink RX7 161 "FireNetsModel" "bestOver" "I") (by decide +kernel)
  have hS : va_S A s.heap s.heap [] := va_S.rf
  have hl : lv_has ls 4 [(0, .ref mo), (1, .int (nI o)), (2, .int (nI t))] := hl
  have hP : va_P D vwCl [(mo, .inr (7, moV (nI nn) (nI mm) me mj mw mp mu (zb (ke = true)) bd ml (nI sq) mq fi gu le cs (zb (ba = true)) ov m1 m2 m3 m4 lk (zb (sp = true)) bs bo m5 m6 m7 su sl m8 lo sh)), (mw, .inl (cI, 10, .inl wo)), (m1, .inl (cI, 10, .inl tr)), (m5, .inl (cI, 9, .inl bz))] s.heap := hP
  refine lv_aload_n hx hb dX7_compare_0 rfl (lv_at hl 0 rfl) ?_
  refine goRI hP hS (va_runV (As := []) (rest := []) ⟨hx, hb, hml, hown, hts⟩ (kX7_saved l D cI cJ mo nn mm me mj mw mp mu ke bd ml sq mq fi gu le cs ba ov m1 m2 m3 m4 lk sp bs bo m5 m6 m7 su sl m8 lo sh wo (by omega)) (cwV 0 hts gX7_compare_X7_saved rfl rfl rfl kdX7_saved ⟨Nat.le_of_ble_eq_true rfl, Nat.le_of_ble_eq_true rfl⟩) (preRV hK hN hP 0 (ci := 7) rfl rfl rfl [0, 1] rfl) rfl rfl hl.1 rfl (lv_room (Nat.le_of_ble_eq_true rfl)) dX7_compare_1 ⟨Nat.zero_le _, Nat.zero_le _⟩) (fun H locs hP hS => ?_)
  refine lv_aload_n hx hb dX7_compare_4 rfl (lv_at hl 0 rfl) ?_
  refine va_get (D := D) (ci := 7) (v := .int bs) (C := RX7) (T := TX7) (N := 34) hx hb hts hi_7 hown hK hP 0 rfl rfl 24 (by decide) hf_158 (fun _ h9 => h9) rfl dX7_compare_5 ?_
  refine lv_icmp_le (tgt := 59) hx hb dX7_compare_8 (by decide) (fun c_8 => ?_) (fun c_8 => ?_)
  · exact endMV () hx hb hr hlocks hA hQ hS hP dX7_compare_59 (by rw [if_neg (i_nlt c_8), if_neg (i_nlt c_8), if_neg (i_nlt c_8)]) trivial
  · refine lv_aload_n hx hb dX7_compare_11 rfl (lv_at hl 0 rfl) ?_
    refine lv_aload_n hx hb dX7_compare_12 rfl (lv_at hl 0 rfl) ?_
    refine goRI hP hS (va_runV (As := []) (rest := [.ref mo]) ⟨hx, hb, hml, hown, hts⟩ (kX7_saved l D cI cJ mo nn mm me mj mw mp mu ke bd ml sq mq fi gu le cs ba ov m1 m2 m3 m4 lk sp bs bo m5 m6 m7 su sl m8 lo sh wo (by omega)) (cwV 0 hts gX7_compare_X7_saved rfl rfl rfl kdX7_saved ⟨Nat.le_of_ble_eq_true rfl, Nat.le_of_ble_eq_true rfl⟩) (preRV hK hN hP 0 (ci := 7) rfl rfl rfl [0, 1] rfl) rfl rfl hl.1 rfl (lv_room (Nat.le_of_ble_eq_true rfl)) dX7_compare_13 ⟨Nat.zero_le _, Nat.zero_le _⟩) (fun H locs hP hS => ?_)
    refine va_put (D := D) (ci := 7) (v := .int (savedM nn wo fi)) (ty := .int) (C := RX7) (T := TX7) (N := 34) hx hb hts hi_7 tyX7 tyX7_ok nmX7 hown hK hP hD hS 0 rfl rfl 24 (by decide) hf_158 (fun _ h9 => h9) rfl (by decide +kernel) rfl rfl (Nat.le_of_ble_eq_true rfl) dX7_compare_16 (fun H locs hP hD hS => ?_)
    have hP : va_P D vwCl [(mo, .inr (7, moV (nI nn) (nI mm) me mj mw mp mu (zb (ke = true)) bd ml (nI sq) mq fi gu le cs (zb (ba = true)) ov m1 m2 m3 m4 lk (zb (sp = true)) (savedM nn wo fi) bo m5 m6 m7 su sl m8 lo sh)), (mw, .inl (cI, 10, .inl wo)), (m1, .inl (cI, 10, .inl tr)), (m5, .inl (cI, 9, .inl bz))] H := hP
    have hD : va_D A [(mo, .inr (7, moV (nI nn) (nI mm) me mj mw mp mu (zb (ke = true)) bd ml (nI sq) mq fi gu le cs (zb (ba = true)) ov m1 m2 m3 m4 lk (zb (sp = true)) (savedM nn wo fi) bo m5 m6 m7 su sl m8 lo sh)), (mw, .inl (cI, 10, .inl wo)), (m1, .inl (cI, 10, .inl tr)), (m5, .inl (cI, 9, .inl bz))] := hD
    refine lv_aload_n hx hb dX7_compare_19 rfl (lv_at hl 0 rfl) ?_
    refine lv_iload_n hx hb dX7_compare_20 rfl (lv_at hl 1 rfl) ?_
    refine va_put (D := D) (ci := 7) (v := .int (nI o)) (ty := .int) (C := RX7) (T := TX7) (N := 34) hx hb hts hi_7 tyX7 tyX7_ok nmX7 hown hK hP hD hS 0 rfl rfl 25 (by decide) hf_161 (fun _ h9 => h9) rfl (by decide +kernel) rfl rfl (Nat.le_of_ble_eq_true rfl) dX7_compare_21 (fun H locs hP hD hS => ?_)
    have hP : va_P D vwCl [(mo, .inr (7, moV (nI nn) (nI mm) me mj mw mp mu (zb (ke = true)) bd ml (nI sq) mq fi gu le cs (zb (ba = true)) ov m1 m2 m3 m4 lk (zb (sp = true)) (savedM nn wo fi) (nI o) m5 m6 m7 su sl m8 lo sh)), (mw, .inl (cI, 10, .inl wo)), (m1, .inl (cI, 10, .inl tr)), (m5, .inl (cI, 9, .inl bz))] H := hP
    have hD : va_D A [(mo, .inr (7, moV (nI nn) (nI mm) me mj mw mp mu (zb (ke = true)) bd ml (nI sq) mq fi gu le cs (zb (ba = true)) ov m1 m2 m3 m4 lk (zb (sp = true)) (savedM nn wo fi) (nI o) m5 m6 m7 su sl m8 lo sh)), (mw, .inl (cI, 10, .inl wo)), (m1, .inl (cI, 10, .inl tr)), (m5, .inl (cI, 9, .inl bz))] := hD
    refine lv_iconst (v := 1) hx hb dX7_compare_24 (by decide) ?_
    refine lv_istore_n (lv' := [(3, .int 1), (0, .ref mo), (1, .int (nI o)), (2, .int (nI t))]) hx hb dX7_compare_25 rfl hl (by decide) rfl (fun ls hl => ?_)
    have lp : ∀ (fu : Nat) (k : Nat), (k ≤ 8) → 8 - k < fu → ∀ (ls : Array Slot) (H : Heap) (locs : List Loc), lv_has ls 4 [(0, .ref mo), (2, .int (nI t)), (3, .int (nI (k + 1)))] → va_P D vwCl [(mo, .inr (7, moV (nI nn) (nI mm) me mj mw mp mu (zb (ke = true)) bd ml (nI sq) mq fi gu le cs (zb (ba = true)) ov m1 m2 m3 m4 lk (zb (sp = true)) (savedM nn wo fi) (nI o) m5 m6 m7 su sl m8 lo sh)), (mw, .inl (cI, 10, .inl wo)), (m1, .inl (cI, 10, .inl tr)), (m5, .inl (cI, 9, .inl (cmpF tr bz t k)))] H → va_D A [(mo, .inr (7, moV (nI nn) (nI mm) me mj mw mp mu (zb (ke = true)) bd ml (nI sq) mq fi gu le cs (zb (ba = true)) ov m1 m2 m3 m4 lk (zb (sp = true)) (savedM nn wo fi) (nI o) m5 m6 m7 su sl m8 lo sh)), (mw, .inl (cI, 10, .inl wo)), (m1, .inl (cI, 10, .inl tr)), (m5, .inl (cI, 9, .inl (cmpF tr bz t k)))] → va_S A s.heap H locs → W p l e rmX7_compare s m args below meth c H locs 0 0 Q (F0 m 26 ls []) := by
      intro fu
      induction fu with
      | zero => intro k hk hf; exact absurd hf (Nat.not_lt_zero _)
      | succ fu ih_lp =>
        intro k hk hf ls H locs hl hP hD hS
        refine lv_iload_n hx hb dX7_compare_26 rfl (lv_at hl 2 rfl) ?_
        refine lv_bipush (v := 8) hx hb dX7_compare_27 (by decide) ?_
        refine r_icmp_gt (tgt := 59) hx hb (k + 1) 8 dX7_compare_29 (by decide) rfl rfl (by omega) (by omega) (fun c_29 => ?_) (fun c_29 => ?_)
        · exact endMV () hx hb hr hlocks hA hQ hS hP dX7_compare_59 (by rw [if_pos (i_le c_8), if_pos (i_le c_8), if_pos (i_le c_8), show k = 8 by omega]) trivial
        · refine lv_aload_n hx hb dX7_compare_32 rfl (lv_at hl 0 rfl) ?_
          refine va_get (D := D) (ci := 7) (v := .ref m5) (C := RX7) (T := TX7) (N := 34) hx hb hts hi_7 hown hK hP 0 rfl rfl 26 (by decide) hf_50 (fun _ h9 => h9) rfl dX7_compare_33 ?_
          refine lv_iload_n hx hb dX7_compare_36 rfl (lv_at hl 2 rfl) ?_
          refine lv_iload_n hx hb dX7_compare_37 rfl (lv_at hl 2 rfl) ?_
          refine lv_iload_n hx hb dX7_compare_38 rfl (lv_at hl 1 rfl) ?_
          refine r_icmp_gt (tgt := 51) hx hb (k + 1) t dX7_compare_39 (by decide) rfl rfl (by omega) (by omega) (fun c_39 => ?_) (fun c_39 => ?_)
          · refine lv_iconst (v := 0) hx hb dX7_compare_51 (by decide) ?_
            refine r_iast hx hb hK hP hD hS 3 rfl (k + 1) rfl (by omega) (by omega) dX7_compare_52 (fun H locs hP hD hS => ?_)
            have hP : va_P D vwCl [(mo, .inr (7, moV (nI nn) (nI mm) me mj mw mp mu (zb (ke = true)) bd ml (nI sq) mq fi gu le cs (zb (ba = true)) ov m1 m2 m3 m4 lk (zb (sp = true)) (savedM nn wo fi) (nI o) m5 m6 m7 su sl m8 lo sh)), (mw, .inl (cI, 10, .inl wo)), (m1, .inl (cI, 10, .inl tr)), (m5, .inl (cI, 9, .inl (upd (cmpF tr bz t k) (k + 1) 0)))] H := hP
            have hD : va_D A [(mo, .inr (7, moV (nI nn) (nI mm) me mj mw mp mu (zb (ke = true)) bd ml (nI sq) mq fi gu le cs (zb (ba = true)) ov m1 m2 m3 m4 lk (zb (sp = true)) (savedM nn wo fi) (nI o) m5 m6 m7 su sl m8 lo sh)), (mw, .inl (cI, 10, .inl wo)), (m1, .inl (cI, 10, .inl tr)), (m5, .inl (cI, 9, .inl (upd (cmpF tr bz t k) (k + 1) 0)))] := hD
            refine r_iinc (lv' := [(3, .int (nI ((k + 1) + 1))), (0, .ref mo), (2, .int (nI t))]) hx hb 2 (k + 1) dX7_compare_53 hl rfl (by decide) rfl (fun ls hl => ?_)
            refine lv_goto (tgt := 26) hx hb dX7_compare_56 (by decide) ?_
            exact ih_lp (k + 1) (by omega) (by omega) ls _ _ (lv_sub hl [1, 2, 0] rfl) (by rw [cmpF_S0 (by omega)]; exact hP) (by rw [cmpF_S0 (by omega)]; exact hD) hS
          · refine lv_aload_n hx hb dX7_compare_42 rfl (lv_at hl 0 rfl) ?_
            refine va_get (D := D) (ci := 7) (v := .ref m1) (C := RX7) (T := TX7) (N := 34) hx hb hts hi_7 hown hK hP 0 rfl rfl 18 (by decide) hf_38 (fun _ h9 => h9) rfl dX7_compare_43 ?_
            refine lv_iload_n hx hb dX7_compare_46 rfl (lv_at hl 2 rfl) ?_
            refine r_iald hx hb hK hP 2 rfl (k + 1) rfl (by omega) (by omega) dX7_compare_47 ?_
            refine lv_goto (tgt := 52) hx hb dX7_compare_48 (by decide) ?_
            refine r_iast hx hb hK hP hD hS 3 rfl (k + 1) rfl (by omega) (by omega) dX7_compare_52 (fun H locs hP hD hS => ?_)
            have hP : va_P D vwCl [(mo, .inr (7, moV (nI nn) (nI mm) me mj mw mp mu (zb (ke = true)) bd ml (nI sq) mq fi gu le cs (zb (ba = true)) ov m1 m2 m3 m4 lk (zb (sp = true)) (savedM nn wo fi) (nI o) m5 m6 m7 su sl m8 lo sh)), (mw, .inl (cI, 10, .inl wo)), (m1, .inl (cI, 10, .inl tr)), (m5, .inl (cI, 9, .inl (upd (cmpF tr bz t k) (k + 1) (tr (k + 1)))))] H := hP
            have hD : va_D A [(mo, .inr (7, moV (nI nn) (nI mm) me mj mw mp mu (zb (ke = true)) bd ml (nI sq) mq fi gu le cs (zb (ba = true)) ov m1 m2 m3 m4 lk (zb (sp = true)) (savedM nn wo fi) (nI o) m5 m6 m7 su sl m8 lo sh)), (mw, .inl (cI, 10, .inl wo)), (m1, .inl (cI, 10, .inl tr)), (m5, .inl (cI, 9, .inl (upd (cmpF tr bz t k) (k + 1) (tr (k + 1)))))] := hD
            refine r_iinc (lv' := [(3, .int (nI ((k + 1) + 1))), (0, .ref mo), (2, .int (nI t))]) hx hb 2 (k + 1) dX7_compare_53 hl rfl (by decide) rfl (fun ls hl => ?_)
            refine lv_goto (tgt := 26) hx hb dX7_compare_56 (by decide) ?_
            exact ih_lp (k + 1) (by omega) (by omega) ls _ _ (lv_sub hl [1, 2, 0] rfl) (by rw [cmpF_S1 c_39]; exact hP) (by rw [cmpF_S1 c_39]; exact hD) hS
    exact lp _ 0 (by omega) (Nat.lt_succ_self _) ls _ _ (lv_sub hl [1, 3, 0] rfl) (by rw [cmpF_0]; exact hP) (by rw [cmpF_0]; exact hD) hS
def rmX7_seek : Room := { frames := 3, cells := 0, slots := 0, locals := 66 }
theorem kdX7_seek : yX7_seek.cls = RX7 ∧ yX7_seek.cls ≠ "java/lang/invoke/MethodHandle" ∧ yX7_seek.cls ≠ "java/lang/invoke/VarHandle" ∧ (parseMethodDescriptor yX7_seek.desc).map (fun d => d.parameters.length) = some 1 := ⟨rfl, by decide +kernel, by decide +kernel, by decide +kernel⟩
set_option maxRecDepth 100000 in
set_option maxHeartbeats 1000000 in
theorem kX7_seek (l : Launch) (D : va_G) (cI cJ : ClassId) (mo : Nat) (nn : Nat) (mm : Nat) (me : Nat) (mj : Nat) (mw : Nat) (mp : Nat) (mu : Nat) (ke : Bool) (bd : Int32) (ml : Nat) (sq : Nat) (mq : Nat) (fi : Int32) (gu : Int32) (le : Int32) (cs : Int32) (ba : Bool) (ov : Int32) (m1 : Nat) (m2 : Nat) (m3 : Nat) (m4 : Nat) (lk : Int32) (sp : Bool) (bs : Int32) (bo : Int32) (m5 : Nat) (m6 : Nat) (m7 : Nat) (su : Int32) (sl : Int32) (m8 : Nat) (lo : Int32) (sh : Int32) (tr : Row) (fa : Row) (ga : Row) (la : Row) (bz : Row) (pz : Row) (ne : Row) (wo : Row) (pr : Row) (ow : Row) (fire : Int32) (y : Km) (hn10 : nn ≤ 10) (hE : EndOK nn ne) (hSt : SeekTo nn bd ow ke pr ne wo (fillP nn pr pz (allN nn + 1)) (x0M ow ke fire tr fa ga la bz) y) : Met l yX7_seek wsX7_seek rmX7_seek (mPre D cI cJ [.ref mo, .int fire] [(mo, .inr (7, moV (nI nn) (nI mm) me mj mw mp mu (zb (ke = true)) bd ml (nI sq) mq fi gu le cs (zb (ba = true)) ov m1 m2 m3 m4 lk (zb (sp = true)) bs bo m5 m6 m7 su sl m8 lo sh)), (m1, .inl (cI, 10, .inl tr)), (m2, .inl (cI, 10, .inl fa)), (m3, .inl (cI, 10, .inl ga)), (m4, .inl (cI, 10, .inl la)), (m5, .inl (cI, 9, .inl bz)), (m6, .inl (cI, 1024, .inl pz)), (mj, .inl (cI, 10, .inl ne)), (mw, .inl (cI, 10, .inl wo)), (mp, .inl (cI, 10, .inl pr)), (mu, .inl (cI, 9, .inl ow))]) (mQv D (fun (_ : Unit) => True) (fun (_ : Unit) => [(mo, .inr (7, moV (nI nn) (nI mm) me mj mw mp mu (zb (ke = true)) bd ml (nI sq) mq y.2.1 y.2.2.1 y.2.2.2.1 y.2.2.2.2.1 (zb (ba = true)) ov m1 m2 m3 m4 y.2.2.2.2.2.1 (zb (y.2.2.2.2.2.2.1 = true)) y.2.2.2.2.2.2.2.1 y.2.2.2.2.2.2.2.2.1 m5 m6 m7 su sl m8 lo sh)), (m1, .inl (cI, 10, .inl y.2.2.2.2.2.2.2.2.2.1)), (m2, .inl (cI, 10, .inl y.2.2.2.2.2.2.2.2.2.2.1)), (m3, .inl (cI, 10, .inl y.2.2.2.2.2.2.2.2.2.2.2.1)), (m4, .inl (cI, 10, .inl y.2.2.2.2.2.2.2.2.2.2.2.2.1)), (m5, .inl (cI, 9, .inl y.2.2.2.2.2.2.2.2.2.2.2.2.2)), (m6, .inl (cI, 1024, .inl (fillP nn pr pz (allN nn + 1)))), (mj, .inl (cI, 10, .inl ne)), (mw, .inl (cI, 10, .inl wo)), (mp, .inl (cI, 10, .inl pr)), (mu, .inl (cI, 9, .inl ow))]) [(mo, .inr (7, moV (nI nn) (nI mm) me mj mw mp mu (zb (ke = true)) bd ml (nI sq) mq fi gu le cs (zb (ba = true)) ov m1 m2 m3 m4 lk (zb (sp = true)) bs bo m5 m6 m7 su sl m8 lo sh)), (m1, .inl (cI, 10, .inl tr)), (m2, .inl (cI, 10, .inl fa)), (m3, .inl (cI, 10, .inl ga)), (m4, .inl (cI, 10, .inl la)), (m5, .inl (cI, 9, .inl bz)), (m6, .inl (cI, 1024, .inl pz)), (mj, .inl (cI, 10, .inl ne)), (mw, .inl (cI, 10, .inl wo)), (mp, .inl (cI, 10, .inl pr)), (mu, .inl (cI, 9, .inl ow))]) 0 0 (mA [(mo, .inr (7, moV (nI nn) (nI mm) me mj mw mp mu (zb (ke = true)) bd ml (nI sq) mq fi gu le cs (zb (ba = true)) ov m1 m2 m3 m4 lk (zb (sp = true)) bs bo m5 m6 m7 su sl m8 lo sh)), (m1, .inl (cI, 10, .inl tr)), (m2, .inl (cI, 10, .inl fa)), (m3, .inl (cI, 10, .inl ga)), (m4, .inl (cI, 10, .inl la)), (m5, .inl (cI, 9, .inl bz)), (m6, .inl (cI, 1024, .inl pz)), (mj, .inl (cI, 10, .inl ne)), (mw, .inl (cI, 10, .inl wo)), (mp, .inl (cI, 10, .inl pr)), (mu, .inl (cI, 9, .inl ow))]) := by
  refine startM (cc := cX7_seek) (maxL := 5) (ret := none) (by decide) rfl (Nat.le_of_ble_eq_true rfl) ?_
  intro p e s m args below meth c ls Q A hA hQ hx hb hr hlocks hml hown hts hK hN hP hD hl hin
  have hown : s.vm.findClass RX7 = some m.cls := hown
  have hi_7 : ∀ w ∈ wsX70, w ∈ wsX7_seek := by decide +kernel
  have hf_29 := hts (.fieldLink RX7 29 "FireNetsModel" "bound" "I") (by decide +kernel)
  have hf_38 := hts (.fieldLink RX7 38 "FireNetsModel" "tried" "[I") (by decide +kernel)
  have hf_53 := hts (.fieldLink RX7 53 "FireNetsModel" "prices" "[I") (by decide +kernel)
  have hf_109 := hts (.fieldLink RX7 109 "FireNetsModel" "left" "I") (by decide +kernel)
  have hf_158 := hts (.fieldLink RX7 158 "FireNetsModel" "bestSaved" "I") (by decide +kernel)
  have hf_161 := hts (.fieldLink RX7 161 "FireNetsModel" "bestOver" "I") (by decide +kernel)
  have hf_164 := hts (.fieldLink RX7 164 "FireNetsModel" "looks" "I") (by decide +kernel)
  have hf_167 := hts (.fieldLink RX7 167 "FireNetsModel" "isSpent" "Z") (by decide +kernel)
  have hS : va_S A s.heap s.heap [] := va_S.rf
  have hl : lv_has ls 5 [(0, .ref mo), (1, .int fire)] := hl
  have hP : va_P D vwCl [(mo, .inr (7, moV (nI nn) (nI mm) me mj mw mp mu (zb (ke = true)) bd ml (nI sq) mq fi gu le cs (zb (ba = true)) ov m1 m2 m3 m4 lk (zb (sp = true)) bs bo m5 m6 m7 su sl m8 lo sh)), (m1, .inl (cI, 10, .inl tr)), (m2, .inl (cI, 10, .inl fa)), (m3, .inl (cI, 10, .inl ga)), (m4, .inl (cI, 10, .inl la)), (m5, .inl (cI, 9, .inl bz)), (m6, .inl (cI, 1024, .inl pz)), (mj, .inl (cI, 10, .inl ne)), (mw, .inl (cI, 10, .inl wo)), (mp, .inl (cI, 10, .inl pr)), (mu, .inl (cI, 9, .inl ow))] s.heap := hP
  obtain ⟨N, hyv, hNd, hok⟩ := hSt
  have hAb := allN_le hn10
  have lp : ∀ (fu : Nat) (k t : Nat) (f1 g1 l1 c1 k1 : Int32) (s1 : Bool) (b1 o1 : Int32) (tr1 fa1 ga1 la1 bz1 : Row), (k ≤ N) → (itM nn bd ow ke pr ne wo (fillP nn pr pz (allN nn + 1)) (x0M ow ke fire tr fa ga la bz) k = (t, f1, g1, l1, c1, k1, s1, b1, o1, tr1, fa1, ga1, la1, bz1)) → (t ≤ 8) → N - k < fu → ∀ (ls : Array Slot) (H : Heap) (locs : List Loc), lv_has ls 5 [(0, .ref mo), (2, .int (nI t))] → va_P D vwCl [(mo, .inr (7, moV (nI nn) (nI mm) me mj mw mp mu (zb (ke = true)) bd ml (nI sq) mq f1 g1 l1 c1 (zb (ba = true)) ov m1 m2 m3 m4 k1 (zb (s1 = true)) b1 o1 m5 m6 m7 su sl m8 lo sh)), (m1, .inl (cI, 10, .inl tr1)), (m2, .inl (cI, 10, .inl fa1)), (m3, .inl (cI, 10, .inl ga1)), (m4, .inl (cI, 10, .inl la1)), (m5, .inl (cI, 9, .inl bz1)), (m6, .inl (cI, 1024, .inl (fillP nn pr pz (allN nn + 1)))), (mj, .inl (cI, 10, .inl ne)), (mw, .inl (cI, 10, .inl wo)), (mp, .inl (cI, 10, .inl pr)), (mu, .inl (cI, 9, .inl ow))] H → va_D A [(mo, .inr (7, moV (nI nn) (nI mm) me mj mw mp mu (zb (ke = true)) bd ml (nI sq) mq f1 g1 l1 c1 (zb (ba = true)) ov m1 m2 m3 m4 k1 (zb (s1 = true)) b1 o1 m5 m6 m7 su sl m8 lo sh)), (m1, .inl (cI, 10, .inl tr1)), (m2, .inl (cI, 10, .inl fa1)), (m3, .inl (cI, 10, .inl ga1)), (m4, .inl (cI, 10, .inl la1)), (m5, .inl (cI, 9, .inl bz1)), (m6, .inl (cI, 1024, .inl (fillP nn pr pz (allN nn + 1)))), (mj, .inl (cI, 10, .inl ne)), (mw, .inl (cI, 10, .inl wo)), (mp, .inl (cI, 10, .inl pr)), (mu, .inl (cI, 9, .inl ow))] → va_S A s.heap H locs → W p l e rmX7_seek s m args below meth c H locs 0 0 Q (F0 m 64 ls []) := by
    intro fu
    induction fu with
    | zero => intro k t f1 g1 l1 c1 k1 s1 b1 o1 tr1 fa1 ga1 la1 bz1 hk hq ht8 hf; exact absurd hf (Nat.not_lt_zero _)
    | succ fu ih_lp =>
      intro k t f1 g1 l1 c1 k1 s1 b1 o1 tr1 fa1 ga1 la1 bz1 hk hq ht8 hf ls H locs hl hP hD hS
      have en : ∀ (fu : Nat) (j o : Nat) (pf : Int32), (o + j < 100) → (endL nn ne (ga1 t ||| tr1 t) j o pf = endL nn ne (ga1 t ||| tr1 t) 33 t (fa1 t)) → (itM nn bd ow ke pr ne wo (fillP nn pr pz (allN nn + 1)) (x0M ow ke fire tr fa ga la bz) (k + 1) = stepE nn pr ne wo t c1 k1 s1 b1 o1 tr1 fa1 ga1 la1 bz1) → (k < N) → j < fu → ∀ (ls : Array Slot) (H : Heap) (locs : List Loc), lv_has ls 5 [(0, .ref mo), (2, .int (nI t)), (3, .int (zb (¬ nearM nn ne pf (ga1 t ||| tr1 t) = 0))), (4, .int (nI o))] → va_P D vwCl [(mo, .inr (7, moV (nI nn) (nI mm) me mj mw mp mu (zb (ke = true)) bd ml (nI sq) mq (pf ||| nearM nn ne pf (ga1 t ||| tr1 t)) (ga1 t ||| tr1 t) (la1 t - sumM pr (tr1 t) nn) (c1 + sumM pr (tr1 t) nn) (zb (ba = true)) ov m1 m2 m3 m4 (k1 + 1) (zb (s1 = true)) b1 o1 m5 m6 m7 su sl m8 lo sh)), (m1, .inl (cI, 10, .inl tr1)), (m2, .inl (cI, 10, .inl fa1)), (m3, .inl (cI, 10, .inl ga1)), (m4, .inl (cI, 10, .inl la1)), (m5, .inl (cI, 9, .inl bz1)), (m6, .inl (cI, 1024, .inl (fillP nn pr pz (allN nn + 1)))), (mj, .inl (cI, 10, .inl ne)), (mw, .inl (cI, 10, .inl wo)), (mp, .inl (cI, 10, .inl pr)), (mu, .inl (cI, 9, .inl ow))] H → va_D A [(mo, .inr (7, moV (nI nn) (nI mm) me mj mw mp mu (zb (ke = true)) bd ml (nI sq) mq (pf ||| nearM nn ne pf (ga1 t ||| tr1 t)) (ga1 t ||| tr1 t) (la1 t - sumM pr (tr1 t) nn) (c1 + sumM pr (tr1 t) nn) (zb (ba = true)) ov m1 m2 m3 m4 (k1 + 1) (zb (s1 = true)) b1 o1 m5 m6 m7 su sl m8 lo sh)), (m1, .inl (cI, 10, .inl tr1)), (m2, .inl (cI, 10, .inl fa1)), (m3, .inl (cI, 10, .inl ga1)), (m4, .inl (cI, 10, .inl la1)), (m5, .inl (cI, 9, .inl bz1)), (m6, .inl (cI, 1024, .inl (fillP nn pr pz (allN nn + 1)))), (mj, .inl (cI, 10, .inl ne)), (mw, .inl (cI, 10, .inl wo)), (mp, .inl (cI, 10, .inl pr)), (mu, .inl (cI, 9, .inl ow))] → va_S A s.heap H locs → W p l e rmX7_seek s m args below meth c H locs 0 0 Q (F0 m 203 ls []) := by
        intro fu
        induction fu with
        | zero => intro j o pf ho he hcE hkN hf; exact absurd hf (Nat.not_lt_zero _)
        | succ fu ih_en =>
          intro j o pf ho he hcE hkN hf ls H locs hl hP hD hS
          obtain ⟨j, rfl⟩ : ∃ i, j = i + 1 := by cases j with | zero => obtain ⟨eo, he0⟩ := hE (ga1 t ||| tr1 t) t (fa1 t); rw [he0] at he; exact absurd he (by intro h; cases h) | succ i => exact ⟨i, rfl⟩
          refine lv_iload_n hx hb dX7_seek_203 rfl (lv_at hl 2 rfl) ?_
          refine r_zeq (tgt := 218) hx hb dX7_seek_204 (by decide) (fun c_204 => ?_) (fun c_204 => ?_)
          · have hz : nearM nn ne pf (ga1 t ||| tr1 t) = 0 := Decidable.byContradiction c_204
            have he0 : endL nn ne (ga1 t ||| tr1 t) 33 t (fa1 t) = some (o, pf) := by rw [← he, endL, if_pos hz]
            refine lv_aload_n hx hb dX7_seek_218 rfl (lv_at hl 0 rfl) ?_
            refine lv_iload hx hb dX7_seek_219 (lv_at hl 3 rfl) ?_
            refine lv_iload_n hx hb dX7_seek_221 rfl (lv_at hl 1 rfl) ?_
            refine goMV hP hD hS (va_runV (As := [.int (nI o), .int (nI t)]) (rest := []) ⟨hx, hb, hml, hown, hts⟩ (kX7_compare l D cI cJ mo nn mm me mj mw mp mu ke bd ml sq mq (pf ||| nearM nn ne pf (ga1 t ||| tr1 t)) (ga1 t ||| tr1 t) (la1 t - sumM pr (tr1 t) nn) (c1 + sumM pr (tr1 t) nn) ba ov m1 m2 m3 m4 (k1 + 1) s1 b1 o1 m5 m6 m7 su sl m8 lo sh wo tr1 bz1 o t (by omega) (by omega)) (cwV 2 hts gX7_seek_X7_compare rfl rfl rfl kdX7_compare ⟨Nat.le_of_ble_eq_true rfl, Nat.le_of_ble_eq_true rfl⟩) (preMV hK hN hP hD 0 (ci := 7) rfl rfl rfl [0, 8, 1, 5] rfl (by decide)) rfl rfl hl.1 rfl (lv_room (Nat.le_of_ble_eq_true rfl)) dX7_seek_222 ⟨Nat.zero_le _, Nat.zero_le _⟩) [0, 8, 1, 5] rfl (by decide) (fun _ => rfl) (fun _ H locs hp_222 hP hD hS => ?_)
            have hP : va_P D vwCl [(mo, .inr (7, moV (nI nn) (nI mm) me mj mw mp mu (zb (ke = true)) bd ml (nI sq) mq (pf ||| nearM nn ne pf (ga1 t ||| tr1 t)) (ga1 t ||| tr1 t) (la1 t - sumM pr (tr1 t) nn) (c1 + sumM pr (tr1 t) nn) (zb (ba = true)) ov m1 m2 m3 m4 (k1 + 1) (zb (s1 = true)) (if b1 < savedM nn wo (pf ||| nearM nn ne pf (ga1 t ||| tr1 t)) then savedM nn wo (pf ||| nearM nn ne pf (ga1 t ||| tr1 t)) else b1) (if b1 < savedM nn wo (pf ||| nearM nn ne pf (ga1 t ||| tr1 t)) then nI o else o1) m5 m6 m7 su sl m8 lo sh)), (m1, .inl (cI, 10, .inl tr1)), (m2, .inl (cI, 10, .inl fa1)), (m3, .inl (cI, 10, .inl ga1)), (m4, .inl (cI, 10, .inl la1)), (m5, .inl (cI, 9, .inl (if b1 < savedM nn wo (pf ||| nearM nn ne pf (ga1 t ||| tr1 t)) then cmpF tr1 bz1 t 8 else bz1))), (m6, .inl (cI, 1024, .inl (fillP nn pr pz (allN nn + 1)))), (mj, .inl (cI, 10, .inl ne)), (mw, .inl (cI, 10, .inl wo)), (mp, .inl (cI, 10, .inl pr)), (mu, .inl (cI, 9, .inl ow))] H := hP
            have hD : va_D A [(mo, .inr (7, moV (nI nn) (nI mm) me mj mw mp mu (zb (ke = true)) bd ml (nI sq) mq (pf ||| nearM nn ne pf (ga1 t ||| tr1 t)) (ga1 t ||| tr1 t) (la1 t - sumM pr (tr1 t) nn) (c1 + sumM pr (tr1 t) nn) (zb (ba = true)) ov m1 m2 m3 m4 (k1 + 1) (zb (s1 = true)) (if b1 < savedM nn wo (pf ||| nearM nn ne pf (ga1 t ||| tr1 t)) then savedM nn wo (pf ||| nearM nn ne pf (ga1 t ||| tr1 t)) else b1) (if b1 < savedM nn wo (pf ||| nearM nn ne pf (ga1 t ||| tr1 t)) then nI o else o1) m5 m6 m7 su sl m8 lo sh)), (m1, .inl (cI, 10, .inl tr1)), (m2, .inl (cI, 10, .inl fa1)), (m3, .inl (cI, 10, .inl ga1)), (m4, .inl (cI, 10, .inl la1)), (m5, .inl (cI, 9, .inl (if b1 < savedM nn wo (pf ||| nearM nn ne pf (ga1 t ||| tr1 t)) then cmpF tr1 bz1 t 8 else bz1))), (m6, .inl (cI, 1024, .inl (fillP nn pr pz (allN nn + 1)))), (mj, .inl (cI, 10, .inl ne)), (mw, .inl (cI, 10, .inl wo)), (mp, .inl (cI, 10, .inl pr)), (mu, .inl (cI, 9, .inl ow))] := hD
            refine lv_aload_n hx hb dX7_seek_225 rfl (lv_at hl 0 rfl) ?_
            refine lv_iload_n hx hb dX7_seek_226 rfl (lv_at hl 1 rfl) ?_
            refine goMV hP hD hS (va_runV (As := [.int (nI t)]) (rest := []) ⟨hx, hb, hml, hown, hts⟩ (kX7_goOn l D cI cJ mo nn mm me mj mw mp mu ke bd ml sq mq (pf ||| nearM nn ne pf (ga1 t ||| tr1 t)) (ga1 t ||| tr1 t) (la1 t - sumM pr (tr1 t) nn) (c1 + sumM pr (tr1 t) nn) ba ov m1 m2 m3 m4 (k1 + 1) s1 (if b1 < savedM nn wo (pf ||| nearM nn ne pf (ga1 t ||| tr1 t)) then savedM nn wo (pf ||| nearM nn ne pf (ga1 t ||| tr1 t)) else b1) (if b1 < savedM nn wo (pf ||| nearM nn ne pf (ga1 t ||| tr1 t)) then nI o else o1) m5 m6 m7 su sl m8 lo sh tr1 fa1 ga1 t (by omega)) (cwV 1 hts gX7_seek_X7_goOn rfl rfl rfl kdX7_goOn ⟨Nat.le_of_ble_eq_true rfl, Nat.le_of_ble_eq_true rfl⟩) (preMV hK hN hP hD 0 (ci := 7) rfl rfl rfl [0, 1, 2, 3] rfl (by decide)) rfl rfl hl.1 rfl (lv_room (Nat.le_of_ble_eq_true rfl)) dX7_seek_227 ⟨Nat.zero_le _, Nat.zero_le _⟩) [0, 1, 2, 3] rfl (by decide) (fun _ => rfl) (fun _ H locs hp_227 hP hD hS => ?_)
            have hP : va_P D vwCl [(mo, .inr (7, moV (nI nn) (nI mm) me mj mw mp mu (zb (ke = true)) bd ml (nI sq) mq (pf ||| nearM nn ne pf (ga1 t ||| tr1 t)) (ga1 t ||| tr1 t) (la1 t - sumM pr (tr1 t) nn) (c1 + sumM pr (tr1 t) nn) (zb (ba = true)) ov m1 m2 m3 m4 (k1 + 1) (zb (s1 = true)) (if b1 < savedM nn wo (pf ||| nearM nn ne pf (ga1 t ||| tr1 t)) then savedM nn wo (pf ||| nearM nn ne pf (ga1 t ||| tr1 t)) else b1) (if b1 < savedM nn wo (pf ||| nearM nn ne pf (ga1 t ||| tr1 t)) then nI o else o1) m5 m6 m7 su sl m8 lo sh)), (m1, .inl (cI, 10, .inl (goF nn t tr1 fa1 ga1))), (m2, .inl (cI, 10, .inl fa1)), (m3, .inl (cI, 10, .inl ga1)), (m4, .inl (cI, 10, .inl la1)), (m5, .inl (cI, 9, .inl (if b1 < savedM nn wo (pf ||| nearM nn ne pf (ga1 t ||| tr1 t)) then cmpF tr1 bz1 t 8 else bz1))), (m6, .inl (cI, 1024, .inl (fillP nn pr pz (allN nn + 1)))), (mj, .inl (cI, 10, .inl ne)), (mw, .inl (cI, 10, .inl wo)), (mp, .inl (cI, 10, .inl pr)), (mu, .inl (cI, 9, .inl ow))] H := hP
            have hD : va_D A [(mo, .inr (7, moV (nI nn) (nI mm) me mj mw mp mu (zb (ke = true)) bd ml (nI sq) mq (pf ||| nearM nn ne pf (ga1 t ||| tr1 t)) (ga1 t ||| tr1 t) (la1 t - sumM pr (tr1 t) nn) (c1 + sumM pr (tr1 t) nn) (zb (ba = true)) ov m1 m2 m3 m4 (k1 + 1) (zb (s1 = true)) (if b1 < savedM nn wo (pf ||| nearM nn ne pf (ga1 t ||| tr1 t)) then savedM nn wo (pf ||| nearM nn ne pf (ga1 t ||| tr1 t)) else b1) (if b1 < savedM nn wo (pf ||| nearM nn ne pf (ga1 t ||| tr1 t)) then nI o else o1) m5 m6 m7 su sl m8 lo sh)), (m1, .inl (cI, 10, .inl (goF nn t tr1 fa1 ga1))), (m2, .inl (cI, 10, .inl fa1)), (m3, .inl (cI, 10, .inl ga1)), (m4, .inl (cI, 10, .inl la1)), (m5, .inl (cI, 9, .inl (if b1 < savedM nn wo (pf ||| nearM nn ne pf (ga1 t ||| tr1 t)) then cmpF tr1 bz1 t 8 else bz1))), (m6, .inl (cI, 1024, .inl (fillP nn pr pz (allN nn + 1)))), (mj, .inl (cI, 10, .inl ne)), (mw, .inl (cI, 10, .inl wo)), (mp, .inl (cI, 10, .inl pr)), (mu, .inl (cI, 9, .inl ow))] := hD
            refine lv_goto (tgt := 64) hx hb dX7_seek_230 (by decide) ?_
            exact ih_lp (k + 1) t (pf ||| nearM nn ne pf (ga1 t ||| tr1 t)) (ga1 t ||| tr1 t) (la1 t - sumM pr (tr1 t) nn) (c1 + sumM pr (tr1 t) nn) (k1 + 1) s1 (if b1 < savedM nn wo (pf ||| nearM nn ne pf (ga1 t ||| tr1 t)) then savedM nn wo (pf ||| nearM nn ne pf (ga1 t ||| tr1 t)) else b1) (if b1 < savedM nn wo (pf ||| nearM nn ne pf (ga1 t ||| tr1 t)) then nI o else o1) (goF nn t tr1 fa1 ga1) fa1 ga1 la1 (if b1 < savedM nn wo (pf ||| nearM nn ne pf (ga1 t ||| tr1 t)) then cmpF tr1 bz1 t 8 else bz1) (by omega) (by rw [hcE]; unfold stepE; rw [he0]; by_cases hb : b1 < savedM nn wo (pf ||| nearM nn ne pf (ga1 t ||| tr1 t)) <;> first | (simp only [Option.getD_some, if_pos hb]; done) | (simp only [Option.getD_some, if_neg hb]; done)) (by omega) (by omega) ls _ _ (lv_sub hl [0, 1] rfl) hP hD hS
          · refine r_iinc (lv' := [(4, .int (nI (o + 1))), (0, .ref mo), (2, .int (nI t)), (3, .int (zb (¬ nearM nn ne pf (ga1 t ||| tr1 t) = 0)))]) hx hb 3 o dX7_seek_207 hl rfl (by decide) rfl (fun ls hl => ?_)
            refine lv_aload_n hx hb dX7_seek_210 rfl (lv_at hl 1 rfl) ?_
            refine goMI hP hD hS (va_runV (As := []) (rest := []) ⟨hx, hb, hml, hown, hts⟩ (kX7_spreads l D cI cJ mo nn mm me mj mw mp mu ke bd ml sq mq (pf ||| nearM nn ne pf (ga1 t ||| tr1 t)) (ga1 t ||| tr1 t) (la1 t - sumM pr (tr1 t) nn) (c1 + sumM pr (tr1 t) nn) ba ov m1 m2 m3 m4 (k1 + 1) s1 b1 o1 m5 m6 m7 su sl m8 lo sh ne (by omega)) (cwV 0 hts gX7_seek_X7_spreads rfl rfl rfl kdX7_spreads ⟨Nat.le_of_ble_eq_true rfl, Nat.le_of_ble_eq_true rfl⟩) (preMV hK hN hP hD 0 (ci := 7) rfl rfl rfl [0, 7] rfl (by decide)) rfl rfl hl.1 rfl (lv_room (Nat.le_of_ble_eq_true rfl)) dX7_seek_211 ⟨Nat.zero_le _, Nat.zero_le _⟩) [0, 7] rfl (by decide) (fun _ => rfl) (fun r_211 _ H locs hp_211 hP hD hS => ?_)
            have hP : va_P D vwCl [(mo, .inr (7, moV (nI nn) (nI mm) me mj mw mp mu (zb (ke = true)) bd ml (nI sq) mq ((pf ||| nearM nn ne pf (ga1 t ||| tr1 t)) ||| nearM nn ne (pf ||| nearM nn ne pf (ga1 t ||| tr1 t)) (ga1 t ||| tr1 t)) (ga1 t ||| tr1 t) (la1 t - sumM pr (tr1 t) nn) (c1 + sumM pr (tr1 t) nn) (zb (ba = true)) ov m1 m2 m3 m4 (k1 + 1) (zb (s1 = true)) b1 o1 m5 m6 m7 su sl m8 lo sh)), (m1, .inl (cI, 10, .inl tr1)), (m2, .inl (cI, 10, .inl fa1)), (m3, .inl (cI, 10, .inl ga1)), (m4, .inl (cI, 10, .inl la1)), (m5, .inl (cI, 9, .inl bz1)), (m6, .inl (cI, 1024, .inl (fillP nn pr pz (allN nn + 1)))), (mj, .inl (cI, 10, .inl ne)), (mw, .inl (cI, 10, .inl wo)), (mp, .inl (cI, 10, .inl pr)), (mu, .inl (cI, 9, .inl ow))] H := hP
            have hD : va_D A [(mo, .inr (7, moV (nI nn) (nI mm) me mj mw mp mu (zb (ke = true)) bd ml (nI sq) mq ((pf ||| nearM nn ne pf (ga1 t ||| tr1 t)) ||| nearM nn ne (pf ||| nearM nn ne pf (ga1 t ||| tr1 t)) (ga1 t ||| tr1 t)) (ga1 t ||| tr1 t) (la1 t - sumM pr (tr1 t) nn) (c1 + sumM pr (tr1 t) nn) (zb (ba = true)) ov m1 m2 m3 m4 (k1 + 1) (zb (s1 = true)) b1 o1 m5 m6 m7 su sl m8 lo sh)), (m1, .inl (cI, 10, .inl tr1)), (m2, .inl (cI, 10, .inl fa1)), (m3, .inl (cI, 10, .inl ga1)), (m4, .inl (cI, 10, .inl la1)), (m5, .inl (cI, 9, .inl bz1)), (m6, .inl (cI, 1024, .inl (fillP nn pr pz (allN nn + 1)))), (mj, .inl (cI, 10, .inl ne)), (mw, .inl (cI, 10, .inl wo)), (mp, .inl (cI, 10, .inl pr)), (mu, .inl (cI, 9, .inl ow))] := hD
            obtain rfl := hp_211
            refine lv_istore_n (lv' := [(3, .int (zb (¬ nearM nn ne (pf ||| nearM nn ne pf (ga1 t ||| tr1 t)) (ga1 t ||| tr1 t) = 0))), (4, .int (nI (o + 1))), (0, .ref mo), (2, .int (nI t))]) hx hb dX7_seek_214 rfl hl (by decide) rfl (fun ls hl => ?_)
            refine lv_goto (tgt := 203) hx hb dX7_seek_215 (by decide) ?_
            exact ih_en j (o + 1) (pf ||| nearM nn ne pf (ga1 t ||| tr1 t)) (by omega) (by rw [← he, endL, if_neg c_204]) hcE hkN (by omega) ls _ _ (lv_sub hl [2, 3, 0, 1] rfl) hP hD hS
      have lk : (tr1 t ≤ allI (nI nn)) → (fillP nn pr pz (allN nn + 1) (tr1 t).toNatClampNeg ≤ la1 t) → (¬ k1 = bd) → (itM nn bd ow ke pr ne wo (fillP nn pr pz (allN nn + 1)) (x0M ow ke fire tr fa ga la bz) (k + 1) = stepK nn bd ow ke pr ne wo (fillP nn pr pz (allN nn + 1)) t c1 k1 s1 b1 o1 tr1 fa1 ga1 la1 bz1) → (k < N) → ∀ (ls : Array Slot) (H : Heap) (locs : List Loc), lv_has ls 5 [(0, .ref mo), (2, .int (nI t))] → va_P D vwCl [(mo, .inr (7, moV (nI nn) (nI mm) me mj mw mp mu (zb (ke = true)) bd ml (nI sq) mq (fa1 t) (ga1 t) (la1 t) c1 (zb (ba = true)) ov m1 m2 m3 m4 k1 (zb (s1 = true)) b1 o1 m5 m6 m7 su sl m8 lo sh)), (m1, .inl (cI, 10, .inl tr1)), (m2, .inl (cI, 10, .inl fa1)), (m3, .inl (cI, 10, .inl ga1)), (m4, .inl (cI, 10, .inl la1)), (m5, .inl (cI, 9, .inl bz1)), (m6, .inl (cI, 1024, .inl (fillP nn pr pz (allN nn + 1)))), (mj, .inl (cI, 10, .inl ne)), (mw, .inl (cI, 10, .inl wo)), (mp, .inl (cI, 10, .inl pr)), (mu, .inl (cI, 9, .inl ow))] H → va_D A [(mo, .inr (7, moV (nI nn) (nI mm) me mj mw mp mu (zb (ke = true)) bd ml (nI sq) mq (fa1 t) (ga1 t) (la1 t) c1 (zb (ba = true)) ov m1 m2 m3 m4 k1 (zb (s1 = true)) b1 o1 m5 m6 m7 su sl m8 lo sh)), (m1, .inl (cI, 10, .inl tr1)), (m2, .inl (cI, 10, .inl fa1)), (m3, .inl (cI, 10, .inl ga1)), (m4, .inl (cI, 10, .inl la1)), (m5, .inl (cI, 9, .inl bz1)), (m6, .inl (cI, 1024, .inl (fillP nn pr pz (allN nn + 1)))), (mj, .inl (cI, 10, .inl ne)), (mw, .inl (cI, 10, .inl wo)), (mp, .inl (cI, 10, .inl pr)), (mu, .inl (cI, 9, .inl ow))] → va_S A s.heap H locs → W p l e rmX7_seek s m args below meth c H locs 0 0 Q (F0 m 149 ls []) := by sorry
      refine lv_iload_n hx hb dX7_seek_64 rfl (lv_at hl 1 rfl) ?_
      refine lv_if_le (tgt := 233) hx hb dX7_seek_65 (by decide) (fun c_65 => ?_) (fun c_65 => ?_)
      · exact endMV () hx hb hr hlocks hA hQ hS hP dX7_seek_233 (by rw [hyv, show N = k + (N - k) by omega, itM_stop (by rw [hq]; exact Or.inl (nz_le c_65 (by omega))), hq]) trivial
      · refine lv_aload_n hx hb dX7_seek_68 rfl (lv_at hl 0 rfl) ?_
        refine va_get (D := D) (ci := 7) (v := .int (zb (s1 = true))) (C := RX7) (T := TX7) (N := 34) hx hb hts hi_7 hown hK hP 0 rfl rfl 23 (by decide) hf_167 (fun _ h9 => h9) rfl dX7_seek_69 ?_
        refine r_zne (tgt := 233) hx hb dX7_seek_72 (by decide) (fun c_72 => ?_) (fun c_72 => ?_)
        · exact endMV () hx hb hr hlocks hA hQ hS hP dX7_seek_233 (by rw [hyv, show N = k + (N - k) by omega, itM_stop (by rw [hq]; exact Or.inr c_72), hq]) trivial
        · have ht1 : 1 ≤ t := Nat.pos_of_ne_zero (fun h => c_65 (by rw [h]; decide))
          have hnd : ¬ doneM (itM nn bd ow ke pr ne wo (fillP nn pr pz (allN nn + 1)) (x0M ow ke fire tr fa ga la bz) k) := by rw [hq]; exact fun h => h.elim (fun h => absurd (show t = 0 from h) (by omega)) c_72
          have hkN := seek_lt hk hNd hnd
          have hok1 := hok k hnd
          rw [hq] at hok1
          have hok2 : ¬ tr1 t < 0 := hok1.2
          have hstep : itM nn bd ow ke pr ne wo (fillP nn pr pz (allN nn + 1)) (x0M ow ke fire tr fa ga la bz) (k + 1) = stepK nn bd ow ke pr ne wo (fillP nn pr pz (allN nn + 1)) t c1 k1 s1 b1 o1 tr1 fa1 ga1 la1 bz1 := by rw [itM, hq]; exact (if_neg (show ¬ t = 0 by omega)).trans (if_neg c_72)
          refine lv_aload_n hx hb dX7_seek_75 rfl (lv_at hl 0 rfl) ?_
          refine lv_iload_n hx hb dX7_seek_76 rfl (lv_at hl 1 rfl) ?_
          refine goMV hP hD hS (va_runV (As := [.int (nI t)]) (rest := []) ⟨hx, hb, hml, hown, hts⟩ (kX7_restore l D cI cJ mo nn mm me mj mw mp mu ke bd ml sq mq f1 g1 l1 c1 ba ov m1 m2 m3 m4 k1 s1 b1 o1 m5 m6 m7 su sl m8 lo sh fa1 ga1 la1 t (by omega)) (cwV 1 hts gX7_seek_X7_restore rfl rfl rfl kdX7_restore ⟨Nat.le_of_ble_eq_true rfl, Nat.le_of_ble_eq_true rfl⟩) (preMV hK hN hP hD 0 (ci := 7) rfl rfl rfl [0, 2, 3, 4] rfl (by decide)) rfl rfl hl.1 rfl (lv_room (Nat.le_of_ble_eq_true rfl)) dX7_seek_77 ⟨Nat.zero_le _, Nat.zero_le _⟩) [0, 2, 3, 4] rfl (by decide) (fun _ => rfl) (fun _ H locs hp_77 hP hD hS => ?_)
          have hP : va_P D vwCl [(mo, .inr (7, moV (nI nn) (nI mm) me mj mw mp mu (zb (ke = true)) bd ml (nI sq) mq (fa1 t) (ga1 t) (la1 t) c1 (zb (ba = true)) ov m1 m2 m3 m4 k1 (zb (s1 = true)) b1 o1 m5 m6 m7 su sl m8 lo sh)), (m1, .inl (cI, 10, .inl tr1)), (m2, .inl (cI, 10, .inl fa1)), (m3, .inl (cI, 10, .inl ga1)), (m4, .inl (cI, 10, .inl la1)), (m5, .inl (cI, 9, .inl bz1)), (m6, .inl (cI, 1024, .inl (fillP nn pr pz (allN nn + 1)))), (mj, .inl (cI, 10, .inl ne)), (mw, .inl (cI, 10, .inl wo)), (mp, .inl (cI, 10, .inl pr)), (mu, .inl (cI, 9, .inl ow))] H := hP
          have hD : va_D A [(mo, .inr (7, moV (nI nn) (nI mm) me mj mw mp mu (zb (ke = true)) bd ml (nI sq) mq (fa1 t) (ga1 t) (la1 t) c1 (zb (ba = true)) ov m1 m2 m3 m4 k1 (zb (s1 = true)) b1 o1 m5 m6 m7 su sl m8 lo sh)), (m1, .inl (cI, 10, .inl tr1)), (m2, .inl (cI, 10, .inl fa1)), (m3, .inl (cI, 10, .inl ga1)), (m4, .inl (cI, 10, .inl la1)), (m5, .inl (cI, 9, .inl bz1)), (m6, .inl (cI, 1024, .inl (fillP nn pr pz (allN nn + 1)))), (mj, .inl (cI, 10, .inl ne)), (mw, .inl (cI, 10, .inl wo)), (mp, .inl (cI, 10, .inl pr)), (mu, .inl (cI, 9, .inl ow))] := hD
          refine lv_aload_n hx hb dX7_seek_80 rfl (lv_at hl 0 rfl) ?_
          refine va_get (D := D) (ci := 7) (v := .ref m1) (C := RX7) (T := TX7) (N := 34) hx hb hts hi_7 hown hK hP 0 rfl rfl 18 (by decide) hf_38 (fun _ h9 => h9) rfl dX7_seek_81 ?_
          refine lv_iload_n hx hb dX7_seek_84 rfl (lv_at hl 1 rfl) ?_
          refine r_iald hx hb hK hP 1 rfl t rfl (by omega) (by omega) dX7_seek_85 ?_
          refine lv_aload_n hx hb dX7_seek_86 rfl (lv_at hl 0 rfl) ?_
          refine goRI hP hS (va_runV (As := []) (rest := [.int (tr1 t)]) ⟨hx, hb, hml, hown, hts⟩ (kX7_all l D cI cJ mo nn mm me mj mw mp mu ke bd ml sq mq (fa1 t) (ga1 t) (la1 t) c1 ba ov m1 m2 m3 m4 k1 s1 b1 o1 m5 m6 m7 su sl m8 lo sh) (cwV 0 hts gX7_seek_X7_all rfl rfl rfl kdX7_all ⟨Nat.le_of_ble_eq_true rfl, Nat.le_of_ble_eq_true rfl⟩) (preRV hK hN hP 0 (ci := 7) rfl rfl rfl [0] rfl) rfl rfl hl.1 rfl (lv_room (Nat.le_of_ble_eq_true rfl)) dX7_seek_87 ⟨Nat.zero_le _, Nat.zero_le _⟩) (fun H locs hP hS => ?_)
          refine lv_icmp_le (tgt := 104) hx hb dX7_seek_90 (by decide) (fun c_90 => ?_) (fun c_90 => ?_)
          · refine lv_aload_n hx hb dX7_seek_104 rfl (lv_at hl 0 rfl) ?_
            refine va_get (D := D) (ci := 7) (v := .ref m6) (C := RX7) (T := TX7) (N := 34) hx hb hts hi_7 hown hK hP 0 rfl rfl 27 (by decide) hf_53 (fun _ h9 => h9) rfl dX7_seek_105 ?_
            refine lv_aload_n hx hb dX7_seek_108 rfl (lv_at hl 0 rfl) ?_
            refine va_get (D := D) (ci := 7) (v := .ref m1) (C := RX7) (T := TX7) (N := 34) hx hb hts hi_7 hown hK hP 0 rfl rfl 18 (by decide) hf_38 (fun _ h9 => h9) rfl dX7_seek_109 ?_
            refine lv_iload_n hx hb dX7_seek_112 rfl (lv_at hl 1 rfl) ?_
            refine r_iald hx hb hK hP 1 rfl t rfl (by omega) (by omega) dX7_seek_113 ?_
            refine r_iald hx hb hK hP 6 rfl ((tr1 t).toNatClampNeg) (i_cl hok2) (Nat.lt_of_le_of_lt (i_clb hok2 (by rw [← allI_nat hn10]; exact c_90) (by omega)) (by omega)) (i_cl31 hok2) dX7_seek_114 ?_
            refine lv_aload_n hx hb dX7_seek_115 rfl (lv_at hl 0 rfl) ?_
            refine va_get (D := D) (ci := 7) (v := .int (la1 t)) (C := RX7) (T := TX7) (N := 34) hx hb hts hi_7 hown hK hP 0 rfl rfl 14 (by decide) hf_109 (fun _ h9 => h9) rfl dX7_seek_116 ?_
            refine lv_icmp_le (tgt := 130) hx hb dX7_seek_119 (by decide) (fun c_119 => ?_) (fun c_119 => ?_)
            · refine lv_aload_n hx hb dX7_seek_130 rfl (lv_at hl 0 rfl) ?_
              refine va_get (D := D) (ci := 7) (v := .int k1) (C := RX7) (T := TX7) (N := 34) hx hb hts hi_7 hown hK hP 0 rfl rfl 22 (by decide) hf_164 (fun _ h9 => h9) rfl dX7_seek_131 ?_
              refine lv_aload_n hx hb dX7_seek_134 rfl (lv_at hl 0 rfl) ?_
              refine va_get (D := D) (ci := 7) (v := .int bd) (C := RX7) (T := TX7) (N := 34) hx hb hts hi_7 hown hK hP 0 rfl rfl 8 (by decide) hf_29 (fun _ h9 => h9) rfl dX7_seek_135 ?_
              refine lv_icmp_ne (tgt := 149) hx hb dX7_seek_138 (by decide) (fun c_138 => ?_) (fun c_138 => ?_)
              · exact lk c_90 c_119 c_138 hstep hkN ls _ _ (lv_sub hl [0, 1] rfl) hP hD hS
              · refine lv_aload_n hx hb dX7_seek_141 rfl (lv_at hl 0 rfl) ?_
                refine lv_iconst (v := 1) hx hb dX7_seek_142 (by decide) ?_
                refine va_put (D := D) (ci := 7) (v := .int 1) (ty := .boolean) (C := RX7) (T := TX7) (N := 34) hx hb hts hi_7 tyX7 tyX7_ok nmX7 hown hK hP hD hS 0 rfl rfl 23 (by decide) hf_167 (fun _ h9 => h9) rfl (by decide +kernel) rfl rfl (Nat.le_of_ble_eq_true rfl) dX7_seek_143 (fun H locs hP hD hS => ?_)
                have hP : va_P D vwCl [(mo, .inr (7, moV (nI nn) (nI mm) me mj mw mp mu (zb (ke = true)) bd ml (nI sq) mq (fa1 t) (ga1 t) (la1 t) c1 (zb (ba = true)) ov m1 m2 m3 m4 k1 1 b1 o1 m5 m6 m7 su sl m8 lo sh)), (m1, .inl (cI, 10, .inl tr1)), (m2, .inl (cI, 10, .inl fa1)), (m3, .inl (cI, 10, .inl ga1)), (m4, .inl (cI, 10, .inl la1)), (m5, .inl (cI, 9, .inl bz1)), (m6, .inl (cI, 1024, .inl (fillP nn pr pz (allN nn + 1)))), (mj, .inl (cI, 10, .inl ne)), (mw, .inl (cI, 10, .inl wo)), (mp, .inl (cI, 10, .inl pr)), (mu, .inl (cI, 9, .inl ow))] H := hP
                have hD : va_D A [(mo, .inr (7, moV (nI nn) (nI mm) me mj mw mp mu (zb (ke = true)) bd ml (nI sq) mq (fa1 t) (ga1 t) (la1 t) c1 (zb (ba = true)) ov m1 m2 m3 m4 k1 1 b1 o1 m5 m6 m7 su sl m8 lo sh)), (m1, .inl (cI, 10, .inl tr1)), (m2, .inl (cI, 10, .inl fa1)), (m3, .inl (cI, 10, .inl ga1)), (m4, .inl (cI, 10, .inl la1)), (m5, .inl (cI, 9, .inl bz1)), (m6, .inl (cI, 1024, .inl (fillP nn pr pz (allN nn + 1)))), (mj, .inl (cI, 10, .inl ne)), (mw, .inl (cI, 10, .inl wo)), (mp, .inl (cI, 10, .inl pr)), (mu, .inl (cI, 9, .inl ow))] := hD
                refine lv_goto (tgt := 64) hx hb dX7_seek_146 (by decide) ?_
                exact ih_lp (k + 1) t (fa1 t) (ga1 t) (la1 t) c1 k1 true b1 o1 tr1 fa1 ga1 la1 bz1 (by omega) (by rw [hstep]; unfold stepK; rw [if_pos c_90, if_pos c_119, if_pos c_138]) (by omega) (by omega) ls _ _ (lv_sub hl [0, 1] rfl) hP hD hS
            · refine lv_aload_n hx hb dX7_seek_122 rfl (lv_at hl 0 rfl) ?_
              refine lv_iload_n hx hb dX7_seek_123 rfl (lv_at hl 1 rfl) ?_
              refine goMV hP hD hS (va_runV (As := [.int (nI t)]) (rest := []) ⟨hx, hb, hml, hown, hts⟩ (kX7_goOn l D cI cJ mo nn mm me mj mw mp mu ke bd ml sq mq (fa1 t) (ga1 t) (la1 t) c1 ba ov m1 m2 m3 m4 k1 s1 b1 o1 m5 m6 m7 su sl m8 lo sh tr1 fa1 ga1 t (by omega)) (cwV 1 hts gX7_seek_X7_goOn rfl rfl rfl kdX7_goOn ⟨Nat.le_of_ble_eq_true rfl, Nat.le_of_ble_eq_true rfl⟩) (preMV hK hN hP hD 0 (ci := 7) rfl rfl rfl [0, 1, 2, 3] rfl (by decide)) rfl rfl hl.1 rfl (lv_room (Nat.le_of_ble_eq_true rfl)) dX7_seek_124 ⟨Nat.zero_le _, Nat.zero_le _⟩) [0, 1, 2, 3] rfl (by decide) (fun _ => rfl) (fun _ H locs hp_124 hP hD hS => ?_)
              have hP : va_P D vwCl [(mo, .inr (7, moV (nI nn) (nI mm) me mj mw mp mu (zb (ke = true)) bd ml (nI sq) mq (fa1 t) (ga1 t) (la1 t) c1 (zb (ba = true)) ov m1 m2 m3 m4 k1 (zb (s1 = true)) b1 o1 m5 m6 m7 su sl m8 lo sh)), (m1, .inl (cI, 10, .inl (goF nn t tr1 fa1 ga1))), (m2, .inl (cI, 10, .inl fa1)), (m3, .inl (cI, 10, .inl ga1)), (m4, .inl (cI, 10, .inl la1)), (m5, .inl (cI, 9, .inl bz1)), (m6, .inl (cI, 1024, .inl (fillP nn pr pz (allN nn + 1)))), (mj, .inl (cI, 10, .inl ne)), (mw, .inl (cI, 10, .inl wo)), (mp, .inl (cI, 10, .inl pr)), (mu, .inl (cI, 9, .inl ow))] H := hP
              have hD : va_D A [(mo, .inr (7, moV (nI nn) (nI mm) me mj mw mp mu (zb (ke = true)) bd ml (nI sq) mq (fa1 t) (ga1 t) (la1 t) c1 (zb (ba = true)) ov m1 m2 m3 m4 k1 (zb (s1 = true)) b1 o1 m5 m6 m7 su sl m8 lo sh)), (m1, .inl (cI, 10, .inl (goF nn t tr1 fa1 ga1))), (m2, .inl (cI, 10, .inl fa1)), (m3, .inl (cI, 10, .inl ga1)), (m4, .inl (cI, 10, .inl la1)), (m5, .inl (cI, 9, .inl bz1)), (m6, .inl (cI, 1024, .inl (fillP nn pr pz (allN nn + 1)))), (mj, .inl (cI, 10, .inl ne)), (mw, .inl (cI, 10, .inl wo)), (mp, .inl (cI, 10, .inl pr)), (mu, .inl (cI, 9, .inl ow))] := hD
              refine lv_goto (tgt := 64) hx hb dX7_seek_127 (by decide) ?_
              exact ih_lp (k + 1) t (fa1 t) (ga1 t) (la1 t) c1 k1 s1 b1 o1 (goF nn t tr1 fa1 ga1) fa1 ga1 la1 bz1 (by omega) (by rw [hstep]; unfold stepK; rw [if_pos c_90, if_neg c_119]) (by omega) (by omega) ls _ _ (lv_sub hl [0, 1] rfl) hP hD hS
          · refine lv_iinc (k := 1) (v := nI (t - 1)) (lv' := [(2, .int (nI (t - 1))), (0, .ref mo)]) hx hb dX7_seek_93 hl rfl (r_dec (by omega)) (by decide) rfl (fun ls hl => ?_)
            refine lv_aload_n hx hb dX7_seek_96 rfl (lv_at hl 1 rfl) ?_
            refine lv_iload_n hx hb dX7_seek_97 rfl (lv_at hl 0 rfl) ?_
            refine goMV hP hD hS (va_runV (As := [.int (nI (t - 1))]) (rest := []) ⟨hx, hb, hml, hown, hts⟩ (kX7_goOn l D cI cJ mo nn mm me mj mw mp mu ke bd ml sq mq (fa1 t) (ga1 t) (la1 t) c1 ba ov m1 m2 m3 m4 k1 s1 b1 o1 m5 m6 m7 su sl m8 lo sh tr1 fa1 ga1 (t - 1) (by omega)) (cwV 1 hts gX7_seek_X7_goOn rfl rfl rfl kdX7_goOn ⟨Nat.le_of_ble_eq_true rfl, Nat.le_of_ble_eq_true rfl⟩) (preMV hK hN hP hD 0 (ci := 7) rfl rfl rfl [0, 1, 2, 3] rfl (by decide)) rfl rfl hl.1 rfl (lv_room (Nat.le_of_ble_eq_true rfl)) dX7_seek_98 ⟨Nat.zero_le _, Nat.zero_le _⟩) [0, 1, 2, 3] rfl (by decide) (fun _ => rfl) (fun _ H locs hp_98 hP hD hS => ?_)
            have hP : va_P D vwCl [(mo, .inr (7, moV (nI nn) (nI mm) me mj mw mp mu (zb (ke = true)) bd ml (nI sq) mq (fa1 t) (ga1 t) (la1 t) c1 (zb (ba = true)) ov m1 m2 m3 m4 k1 (zb (s1 = true)) b1 o1 m5 m6 m7 su sl m8 lo sh)), (m1, .inl (cI, 10, .inl (goF nn (t - 1) tr1 fa1 ga1))), (m2, .inl (cI, 10, .inl fa1)), (m3, .inl (cI, 10, .inl ga1)), (m4, .inl (cI, 10, .inl la1)), (m5, .inl (cI, 9, .inl bz1)), (m6, .inl (cI, 1024, .inl (fillP nn pr pz (allN nn + 1)))), (mj, .inl (cI, 10, .inl ne)), (mw, .inl (cI, 10, .inl wo)), (mp, .inl (cI, 10, .inl pr)), (mu, .inl (cI, 9, .inl ow))] H := hP
            have hD : va_D A [(mo, .inr (7, moV (nI nn) (nI mm) me mj mw mp mu (zb (ke = true)) bd ml (nI sq) mq (fa1 t) (ga1 t) (la1 t) c1 (zb (ba = true)) ov m1 m2 m3 m4 k1 (zb (s1 = true)) b1 o1 m5 m6 m7 su sl m8 lo sh)), (m1, .inl (cI, 10, .inl (goF nn (t - 1) tr1 fa1 ga1))), (m2, .inl (cI, 10, .inl fa1)), (m3, .inl (cI, 10, .inl ga1)), (m4, .inl (cI, 10, .inl la1)), (m5, .inl (cI, 9, .inl bz1)), (m6, .inl (cI, 1024, .inl (fillP nn pr pz (allN nn + 1)))), (mj, .inl (cI, 10, .inl ne)), (mw, .inl (cI, 10, .inl wo)), (mp, .inl (cI, 10, .inl pr)), (mu, .inl (cI, 9, .inl ow))] := hD
            refine lv_goto (tgt := 64) hx hb dX7_seek_101 (by decide) ?_
            exact ih_lp (k + 1) (t - 1) (fa1 t) (ga1 t) (la1 t) c1 k1 s1 b1 o1 (goF nn (t - 1) tr1 fa1 ga1) fa1 ga1 la1 bz1 (by omega) (by rw [hstep]; unfold stepK; rw [if_neg c_90]) (by omega) (by omega) ls _ _ (lv_sub hl [1, 0] rfl) hP hD hS
  refine lv_iconst (v := 0) hx hb dX7_seek_0 (by decide) ?_
  refine lv_istore_n (lv' := [(2, .int 0), (0, .ref mo), (1, .int fire)]) hx hb dX7_seek_1 rfl hl (by decide) rfl (fun ls hl => ?_)
  have pl : ∀ (fu : Nat) (k : Nat), (k ≤ allN nn + 1) → allN nn + 1 - k < fu → ∀ (ls : Array Slot) (H : Heap) (locs : List Loc), lv_has ls 5 [(0, .ref mo), (1, .int fire), (2, .int (nI k))] → va_P D vwCl [(mo, .inr (7, moV (nI nn) (nI mm) me mj mw mp mu (zb (ke = true)) bd ml (nI sq) mq fi gu le cs (zb (ba = true)) ov m1 m2 m3 m4 lk (zb (sp = true)) bs bo m5 m6 m7 su sl m8 lo sh)), (m1, .inl (cI, 10, .inl tr)), (m2, .inl (cI, 10, .inl fa)), (m3, .inl (cI, 10, .inl ga)), (m4, .inl (cI, 10, .inl la)), (m5, .inl (cI, 9, .inl bz)), (m6, .inl (cI, 1024, .inl (fillP nn pr pz k))), (mj, .inl (cI, 10, .inl ne)), (mw, .inl (cI, 10, .inl wo)), (mp, .inl (cI, 10, .inl pr)), (mu, .inl (cI, 9, .inl ow))] H → va_D A [(mo, .inr (7, moV (nI nn) (nI mm) me mj mw mp mu (zb (ke = true)) bd ml (nI sq) mq fi gu le cs (zb (ba = true)) ov m1 m2 m3 m4 lk (zb (sp = true)) bs bo m5 m6 m7 su sl m8 lo sh)), (m1, .inl (cI, 10, .inl tr)), (m2, .inl (cI, 10, .inl fa)), (m3, .inl (cI, 10, .inl ga)), (m4, .inl (cI, 10, .inl la)), (m5, .inl (cI, 9, .inl bz)), (m6, .inl (cI, 1024, .inl (fillP nn pr pz k))), (mj, .inl (cI, 10, .inl ne)), (mw, .inl (cI, 10, .inl wo)), (mp, .inl (cI, 10, .inl pr)), (mu, .inl (cI, 9, .inl ow))] → va_S A s.heap H locs → W p l e rmX7_seek s m args below meth c H locs 0 0 Q (F0 m 2 ls []) := by
    intro fu
    induction fu with
    | zero => intro k hk hf; exact absurd hf (Nat.not_lt_zero _)
    | succ fu ih_pl =>
      intro k hk hf ls H locs hl hP hD hS
      refine lv_iload_n hx hb dX7_seek_2 rfl (lv_at hl 2 rfl) ?_
      refine lv_aload_n hx hb dX7_seek_3 rfl (lv_at hl 0 rfl) ?_
      refine goRI hP hS (va_runV (As := []) (rest := [.int (nI k)]) ⟨hx, hb, hml, hown, hts⟩ (kX7_all l D cI cJ mo nn mm me mj mw mp mu ke bd ml sq mq fi gu le cs ba ov m1 m2 m3 m4 lk sp bs bo m5 m6 m7 su sl m8 lo sh) (cwV 0 hts gX7_seek_X7_all rfl rfl rfl kdX7_all ⟨Nat.le_of_ble_eq_true rfl, Nat.le_of_ble_eq_true rfl⟩) (preRV hK hN hP 0 (ci := 7) rfl rfl rfl [0] rfl) rfl rfl hl.1 rfl (lv_room (Nat.le_of_ble_eq_true rfl)) dX7_seek_4 ⟨Nat.zero_le _, Nat.zero_le _⟩) (fun H locs hP hS => ?_)
      refine r_top (allI_nat hn10) ?_
      refine r_icmp_gt (tgt := 27) hx hb k (allN nn) dX7_seek_7 (by decide) rfl rfl (by omega) (by omega) (fun c_7 => ?_) (fun c_7 => ?_)
      · refine lv_aload_n hx hb dX7_seek_27 rfl (lv_at hl 0 rfl) ?_
        refine lv_iconst (v := 0) hx hb dX7_seek_28 (by decide) ?_
        refine va_put (D := D) (ci := 7) (v := .int 0) (ty := .int) (C := RX7) (T := TX7) (N := 34) hx hb hts hi_7 tyX7 tyX7_ok nmX7 hown hK hP hD hS 0 rfl rfl 22 (by decide) hf_164 (fun _ h9 => h9) rfl (by decide +kernel) rfl rfl (Nat.le_of_ble_eq_true rfl) dX7_seek_29 (fun H locs hP hD hS => ?_)
        have hP : va_P D vwCl [(mo, .inr (7, moV (nI nn) (nI mm) me mj mw mp mu (zb (ke = true)) bd ml (nI sq) mq fi gu le cs (zb (ba = true)) ov m1 m2 m3 m4 0 (zb (sp = true)) bs bo m5 m6 m7 su sl m8 lo sh)), (m1, .inl (cI, 10, .inl tr)), (m2, .inl (cI, 10, .inl fa)), (m3, .inl (cI, 10, .inl ga)), (m4, .inl (cI, 10, .inl la)), (m5, .inl (cI, 9, .inl bz)), (m6, .inl (cI, 1024, .inl (fillP nn pr pz k))), (mj, .inl (cI, 10, .inl ne)), (mw, .inl (cI, 10, .inl wo)), (mp, .inl (cI, 10, .inl pr)), (mu, .inl (cI, 9, .inl ow))] H := hP
        have hD : va_D A [(mo, .inr (7, moV (nI nn) (nI mm) me mj mw mp mu (zb (ke = true)) bd ml (nI sq) mq fi gu le cs (zb (ba = true)) ov m1 m2 m3 m4 0 (zb (sp = true)) bs bo m5 m6 m7 su sl m8 lo sh)), (m1, .inl (cI, 10, .inl tr)), (m2, .inl (cI, 10, .inl fa)), (m3, .inl (cI, 10, .inl ga)), (m4, .inl (cI, 10, .inl la)), (m5, .inl (cI, 9, .inl bz)), (m6, .inl (cI, 1024, .inl (fillP nn pr pz k))), (mj, .inl (cI, 10, .inl ne)), (mw, .inl (cI, 10, .inl wo)), (mp, .inl (cI, 10, .inl pr)), (mu, .inl (cI, 9, .inl ow))] := hD
        refine lv_aload_n hx hb dX7_seek_32 rfl (lv_at hl 0 rfl) ?_
        refine lv_iconst (v := 0) hx hb dX7_seek_33 (by decide) ?_
        refine va_put (D := D) (ci := 7) (v := .int 0) (ty := .boolean) (C := RX7) (T := TX7) (N := 34) hx hb hts hi_7 tyX7 tyX7_ok nmX7 hown hK hP hD hS 0 rfl rfl 23 (by decide) hf_167 (fun _ h9 => h9) rfl (by decide +kernel) rfl rfl (Nat.le_of_ble_eq_true rfl) dX7_seek_34 (fun H locs hP hD hS => ?_)
        have hP : va_P D vwCl [(mo, .inr (7, moV (nI nn) (nI mm) me mj mw mp mu (zb (ke = true)) bd ml (nI sq) mq fi gu le cs (zb (ba = true)) ov m1 m2 m3 m4 0 0 bs bo m5 m6 m7 su sl m8 lo sh)), (m1, .inl (cI, 10, .inl tr)), (m2, .inl (cI, 10, .inl fa)), (m3, .inl (cI, 10, .inl ga)), (m4, .inl (cI, 10, .inl la)), (m5, .inl (cI, 9, .inl bz)), (m6, .inl (cI, 1024, .inl (fillP nn pr pz k))), (mj, .inl (cI, 10, .inl ne)), (mw, .inl (cI, 10, .inl wo)), (mp, .inl (cI, 10, .inl pr)), (mu, .inl (cI, 9, .inl ow))] H := hP
        have hD : va_D A [(mo, .inr (7, moV (nI nn) (nI mm) me mj mw mp mu (zb (ke = true)) bd ml (nI sq) mq fi gu le cs (zb (ba = true)) ov m1 m2 m3 m4 0 0 bs bo m5 m6 m7 su sl m8 lo sh)), (m1, .inl (cI, 10, .inl tr)), (m2, .inl (cI, 10, .inl fa)), (m3, .inl (cI, 10, .inl ga)), (m4, .inl (cI, 10, .inl la)), (m5, .inl (cI, 9, .inl bz)), (m6, .inl (cI, 1024, .inl (fillP nn pr pz k))), (mj, .inl (cI, 10, .inl ne)), (mw, .inl (cI, 10, .inl wo)), (mp, .inl (cI, 10, .inl pr)), (mu, .inl (cI, 9, .inl ow))] := hD
        refine lv_aload_n hx hb dX7_seek_37 rfl (lv_at hl 0 rfl) ?_
        refine lv_iconst (v := (-1)) hx hb dX7_seek_38 (by decide) ?_
        refine va_put (D := D) (ci := 7) (v := .int (-1)) (ty := .int) (C := RX7) (T := TX7) (N := 34) hx hb hts hi_7 tyX7 tyX7_ok nmX7 hown hK hP hD hS 0 rfl rfl 24 (by decide) hf_158 (fun _ h9 => h9) rfl (by decide +kernel) rfl rfl (Nat.le_of_ble_eq_true rfl) dX7_seek_39 (fun H locs hP hD hS => ?_)
        have hP : va_P D vwCl [(mo, .inr (7, moV (nI nn) (nI mm) me mj mw mp mu (zb (ke = true)) bd ml (nI sq) mq fi gu le cs (zb (ba = true)) ov m1 m2 m3 m4 0 0 (-1) bo m5 m6 m7 su sl m8 lo sh)), (m1, .inl (cI, 10, .inl tr)), (m2, .inl (cI, 10, .inl fa)), (m3, .inl (cI, 10, .inl ga)), (m4, .inl (cI, 10, .inl la)), (m5, .inl (cI, 9, .inl bz)), (m6, .inl (cI, 1024, .inl (fillP nn pr pz k))), (mj, .inl (cI, 10, .inl ne)), (mw, .inl (cI, 10, .inl wo)), (mp, .inl (cI, 10, .inl pr)), (mu, .inl (cI, 9, .inl ow))] H := hP
        have hD : va_D A [(mo, .inr (7, moV (nI nn) (nI mm) me mj mw mp mu (zb (ke = true)) bd ml (nI sq) mq fi gu le cs (zb (ba = true)) ov m1 m2 m3 m4 0 0 (-1) bo m5 m6 m7 su sl m8 lo sh)), (m1, .inl (cI, 10, .inl tr)), (m2, .inl (cI, 10, .inl fa)), (m3, .inl (cI, 10, .inl ga)), (m4, .inl (cI, 10, .inl la)), (m5, .inl (cI, 9, .inl bz)), (m6, .inl (cI, 1024, .inl (fillP nn pr pz k))), (mj, .inl (cI, 10, .inl ne)), (mw, .inl (cI, 10, .inl wo)), (mp, .inl (cI, 10, .inl pr)), (mu, .inl (cI, 9, .inl ow))] := hD
        refine lv_aload_n hx hb dX7_seek_42 rfl (lv_at hl 0 rfl) ?_
        refine lv_iconst (v := 0) hx hb dX7_seek_43 (by decide) ?_
        refine va_put (D := D) (ci := 7) (v := .int 0) (ty := .int) (C := RX7) (T := TX7) (N := 34) hx hb hts hi_7 tyX7 tyX7_ok nmX7 hown hK hP hD hS 0 rfl rfl 25 (by decide) hf_161 (fun _ h9 => h9) rfl (by decide +kernel) rfl rfl (Nat.le_of_ble_eq_true rfl) dX7_seek_44 (fun H locs hP hD hS => ?_)
        have hP : va_P D vwCl [(mo, .inr (7, moV (nI nn) (nI mm) me mj mw mp mu (zb (ke = true)) bd ml (nI sq) mq fi gu le cs (zb (ba = true)) ov m1 m2 m3 m4 0 0 (-1) 0 m5 m6 m7 su sl m8 lo sh)), (m1, .inl (cI, 10, .inl tr)), (m2, .inl (cI, 10, .inl fa)), (m3, .inl (cI, 10, .inl ga)), (m4, .inl (cI, 10, .inl la)), (m5, .inl (cI, 9, .inl bz)), (m6, .inl (cI, 1024, .inl (fillP nn pr pz k))), (mj, .inl (cI, 10, .inl ne)), (mw, .inl (cI, 10, .inl wo)), (mp, .inl (cI, 10, .inl pr)), (mu, .inl (cI, 9, .inl ow))] H := hP
        have hD : va_D A [(mo, .inr (7, moV (nI nn) (nI mm) me mj mw mp mu (zb (ke = true)) bd ml (nI sq) mq fi gu le cs (zb (ba = true)) ov m1 m2 m3 m4 0 0 (-1) 0 m5 m6 m7 su sl m8 lo sh)), (m1, .inl (cI, 10, .inl tr)), (m2, .inl (cI, 10, .inl fa)), (m3, .inl (cI, 10, .inl ga)), (m4, .inl (cI, 10, .inl la)), (m5, .inl (cI, 9, .inl bz)), (m6, .inl (cI, 1024, .inl (fillP nn pr pz k))), (mj, .inl (cI, 10, .inl ne)), (mw, .inl (cI, 10, .inl wo)), (mp, .inl (cI, 10, .inl pr)), (mu, .inl (cI, 9, .inl ow))] := hD
        refine lv_aload_n hx hb dX7_seek_47 rfl (lv_at hl 0 rfl) ?_
        refine lv_iload_n hx hb dX7_seek_48 rfl (lv_at hl 1 rfl) ?_
        refine goMV hP hD hS (va_runV (As := [.int fire]) (rest := []) ⟨hx, hb, hml, hown, hts⟩ (kX7_light l D cI cJ mo nn mm me mj mw mp mu ke bd ml sq mq fi gu le cs ba ov m1 m2 m3 m4 0 false (-1) 0 m5 m6 m7 su sl m8 lo sh fire) (cwV 1 hts gX7_seek_X7_light rfl rfl rfl kdX7_light ⟨Nat.le_of_ble_eq_true rfl, Nat.le_of_ble_eq_true rfl⟩) (preMV hK hN hP hD 0 (ci := 7) rfl rfl rfl [0] rfl (by decide)) rfl rfl hl.1 rfl (lv_room (Nat.le_of_ble_eq_true rfl)) dX7_seek_49 ⟨Nat.zero_le _, Nat.zero_le _⟩) [0] rfl (by decide) (fun _ => rfl) (fun _ H locs hp_49 hP hD hS => ?_)
        have hP : va_P D vwCl [(mo, .inr (7, moV (nI nn) (nI mm) me mj mw mp mu (zb (ke = true)) bd ml (nI sq) mq fire 0 0 0 (zb (ba = true)) ov m1 m2 m3 m4 0 (zb (false = true)) (-1) 0 m5 m6 m7 su sl m8 lo sh)), (m1, .inl (cI, 10, .inl tr)), (m2, .inl (cI, 10, .inl fa)), (m3, .inl (cI, 10, .inl ga)), (m4, .inl (cI, 10, .inl la)), (m5, .inl (cI, 9, .inl bz)), (m6, .inl (cI, 1024, .inl (fillP nn pr pz k))), (mj, .inl (cI, 10, .inl ne)), (mw, .inl (cI, 10, .inl wo)), (mp, .inl (cI, 10, .inl pr)), (mu, .inl (cI, 9, .inl ow))] H := hP
        have hD : va_D A [(mo, .inr (7, moV (nI nn) (nI mm) me mj mw mp mu (zb (ke = true)) bd ml (nI sq) mq fire 0 0 0 (zb (ba = true)) ov m1 m2 m3 m4 0 (zb (false = true)) (-1) 0 m5 m6 m7 su sl m8 lo sh)), (m1, .inl (cI, 10, .inl tr)), (m2, .inl (cI, 10, .inl fa)), (m3, .inl (cI, 10, .inl ga)), (m4, .inl (cI, 10, .inl la)), (m5, .inl (cI, 9, .inl bz)), (m6, .inl (cI, 1024, .inl (fillP nn pr pz k))), (mj, .inl (cI, 10, .inl ne)), (mw, .inl (cI, 10, .inl wo)), (mp, .inl (cI, 10, .inl pr)), (mu, .inl (cI, 9, .inl ow))] := hD
        refine lv_aload_n hx hb dX7_seek_52 rfl (lv_at hl 0 rfl) ?_
        refine lv_iconst (v := 1) hx hb dX7_seek_53 (by decide) ?_
        refine goMV hP hD hS (va_runV (As := [.int 1]) (rest := []) ⟨hx, hb, hml, hown, hts⟩ (kX7_fill l D cI cJ mo nn mm me mj mw mp mu ke bd ml sq mq fire 0 0 0 ba ov m1 m2 m3 m4 0 false (-1) 0 m5 m6 m7 su sl m8 lo sh ow 1 (by omega)) (cwV 1 hts gX7_seek_X7_fill rfl rfl rfl kdX7_fill ⟨Nat.le_of_ble_eq_true rfl, Nat.le_of_ble_eq_true rfl⟩) (preMV hK hN hP hD 0 (ci := 7) rfl rfl rfl [0, 10] rfl (by decide)) rfl rfl hl.1 rfl (lv_room (Nat.le_of_ble_eq_true rfl)) dX7_seek_54 ⟨Nat.zero_le _, Nat.zero_le _⟩) [0, 10] rfl (by decide) (fun _ => rfl) (fun _ H locs hp_54 hP hD hS => ?_)
        have hP : va_P D vwCl [(mo, .inr (7, moV (nI nn) (nI mm) me mj mw mp mu (zb (ke = true)) bd ml (nI sq) mq fire 0 (fillM ow ke 1 0) 0 (zb (ba = true)) ov m1 m2 m3 m4 0 (zb (false = true)) (-1) 0 m5 m6 m7 su sl m8 lo sh)), (m1, .inl (cI, 10, .inl tr)), (m2, .inl (cI, 10, .inl fa)), (m3, .inl (cI, 10, .inl ga)), (m4, .inl (cI, 10, .inl la)), (m5, .inl (cI, 9, .inl bz)), (m6, .inl (cI, 1024, .inl (fillP nn pr pz k))), (mj, .inl (cI, 10, .inl ne)), (mw, .inl (cI, 10, .inl wo)), (mp, .inl (cI, 10, .inl pr)), (mu, .inl (cI, 9, .inl ow))] H := hP
        have hD : va_D A [(mo, .inr (7, moV (nI nn) (nI mm) me mj mw mp mu (zb (ke = true)) bd ml (nI sq) mq fire 0 (fillM ow ke 1 0) 0 (zb (ba = true)) ov m1 m2 m3 m4 0 (zb (false = true)) (-1) 0 m5 m6 m7 su sl m8 lo sh)), (m1, .inl (cI, 10, .inl tr)), (m2, .inl (cI, 10, .inl fa)), (m3, .inl (cI, 10, .inl ga)), (m4, .inl (cI, 10, .inl la)), (m5, .inl (cI, 9, .inl bz)), (m6, .inl (cI, 1024, .inl (fillP nn pr pz k))), (mj, .inl (cI, 10, .inl ne)), (mw, .inl (cI, 10, .inl wo)), (mp, .inl (cI, 10, .inl pr)), (mu, .inl (cI, 9, .inl ow))] := hD
        refine lv_aload_n hx hb dX7_seek_57 rfl (lv_at hl 0 rfl) ?_
        refine lv_iconst (v := 1) hx hb dX7_seek_58 (by decide) ?_
        refine goMV hP hD hS (va_runV (As := [.int 1]) (rest := []) ⟨hx, hb, hml, hown, hts⟩ (kX7_keep l D cI cJ mo nn mm me mj mw mp mu ke bd ml sq mq fire 0 (fillM ow ke 1 0) 0 ba ov m1 m2 m3 m4 0 false (-1) 0 m5 m6 m7 su sl m8 lo sh tr fa ga la 1 (by omega)) (cwV 1 hts gX7_seek_X7_keep rfl rfl rfl kdX7_keep ⟨Nat.le_of_ble_eq_true rfl, Nat.le_of_ble_eq_true rfl⟩) (preMV hK hN hP hD 0 (ci := 7) rfl rfl rfl [0, 1, 2, 3, 4] rfl (by decide)) rfl rfl hl.1 rfl (lv_room (Nat.le_of_ble_eq_true rfl)) dX7_seek_59 ⟨Nat.zero_le _, Nat.zero_le _⟩) [0, 1, 2, 3, 4] rfl (by decide) (fun _ => rfl) (fun _ H locs hp_59 hP hD hS => ?_)
        have hP : va_P D vwCl [(mo, .inr (7, moV (nI nn) (nI mm) me mj mw mp mu (zb (ke = true)) bd ml (nI sq) mq fire 0 (fillM ow ke 1 0) 0 (zb (ba = true)) ov m1 m2 m3 m4 0 (zb (false = true)) (-1) 0 m5 m6 m7 su sl m8 lo sh)), (m1, .inl (cI, 10, .inl (upd tr 1 0))), (m2, .inl (cI, 10, .inl (upd fa 1 fire))), (m3, .inl (cI, 10, .inl (upd ga 1 0))), (m4, .inl (cI, 10, .inl (upd la 1 (fillM ow ke 1 0)))), (m5, .inl (cI, 9, .inl bz)), (m6, .inl (cI, 1024, .inl (fillP nn pr pz k))), (mj, .inl (cI, 10, .inl ne)), (mw, .inl (cI, 10, .inl wo)), (mp, .inl (cI, 10, .inl pr)), (mu, .inl (cI, 9, .inl ow))] H := hP
        have hD : va_D A [(mo, .inr (7, moV (nI nn) (nI mm) me mj mw mp mu (zb (ke = true)) bd ml (nI sq) mq fire 0 (fillM ow ke 1 0) 0 (zb (ba = true)) ov m1 m2 m3 m4 0 (zb (false = true)) (-1) 0 m5 m6 m7 su sl m8 lo sh)), (m1, .inl (cI, 10, .inl (upd tr 1 0))), (m2, .inl (cI, 10, .inl (upd fa 1 fire))), (m3, .inl (cI, 10, .inl (upd ga 1 0))), (m4, .inl (cI, 10, .inl (upd la 1 (fillM ow ke 1 0)))), (m5, .inl (cI, 9, .inl bz)), (m6, .inl (cI, 1024, .inl (fillP nn pr pz k))), (mj, .inl (cI, 10, .inl ne)), (mw, .inl (cI, 10, .inl wo)), (mp, .inl (cI, 10, .inl pr)), (mu, .inl (cI, 9, .inl ow))] := hD
        refine lv_iconst (v := 1) hx hb dX7_seek_62 (by decide) ?_
        refine lv_istore_n (lv' := [(2, .int 1), (0, .ref mo), (1, .int fire)]) hx hb dX7_seek_63 rfl hl (by decide) rfl (fun ls hl => ?_)
        exact lp _ 0 1 fire 0 (fillM ow ke 1 0) 0 0 false (-1) 0 (upd tr 1 0) (upd fa 1 fire) (upd ga 1 0) (upd la 1 (fillM ow ke 1 0)) bz (by omega) rfl (by omega) (Nat.lt_succ_self _) ls _ _ (lv_sub hl [1, 0] rfl) (by rw [show k = allN nn + 1 by omega] at hP; exact hP) (by rw [show k = allN nn + 1 by omega] at hD; exact hD) hS
      · refine lv_aload_n hx hb dX7_seek_10 rfl (lv_at hl 0 rfl) ?_
        refine va_get (D := D) (ci := 7) (v := .ref m6) (C := RX7) (T := TX7) (N := 34) hx hb hts hi_7 hown hK hP 0 rfl rfl 27 (by decide) hf_53 (fun _ h9 => h9) rfl dX7_seek_11 ?_
        refine lv_iload_n hx hb dX7_seek_14 rfl (lv_at hl 2 rfl) ?_
        refine lv_aload_n hx hb dX7_seek_15 rfl (lv_at hl 0 rfl) ?_
        refine lv_iload_n hx hb dX7_seek_16 rfl (lv_at hl 2 rfl) ?_
        refine goRI hP hS (va_runV (As := [.int (nI k)]) (rest := [.int (nI k), .ref m6]) ⟨hx, hb, hml, hown, hts⟩ (kX7_priceOf l D cI cJ mo nn mm me mj mw mp mu ke bd ml sq mq fi gu le cs ba ov m1 m2 m3 m4 lk sp bs bo m5 m6 m7 su sl m8 lo sh pr (nI k) (by omega)) (cwV 1 hts gX7_seek_X7_priceOf rfl rfl rfl kdX7_priceOf ⟨Nat.le_of_ble_eq_true rfl, Nat.le_of_ble_eq_true rfl⟩) (preRV hK hN hP 0 (ci := 7) rfl rfl rfl [0, 9] rfl) rfl rfl hl.1 rfl (lv_room (Nat.le_of_ble_eq_true rfl)) dX7_seek_17 ⟨Nat.zero_le _, Nat.zero_le _⟩) (fun H locs hP hS => ?_)
        refine r_iast hx hb hK hP hD hS 6 rfl k rfl (by omega) (by omega) dX7_seek_20 (fun H locs hP hD hS => ?_)
        have hP : va_P D vwCl [(mo, .inr (7, moV (nI nn) (nI mm) me mj mw mp mu (zb (ke = true)) bd ml (nI sq) mq fi gu le cs (zb (ba = true)) ov m1 m2 m3 m4 lk (zb (sp = true)) bs bo m5 m6 m7 su sl m8 lo sh)), (m1, .inl (cI, 10, .inl tr)), (m2, .inl (cI, 10, .inl fa)), (m3, .inl (cI, 10, .inl ga)), (m4, .inl (cI, 10, .inl la)), (m5, .inl (cI, 9, .inl bz)), (m6, .inl (cI, 1024, .inl (upd (fillP nn pr pz k) k (sumM pr (nI k) nn)))), (mj, .inl (cI, 10, .inl ne)), (mw, .inl (cI, 10, .inl wo)), (mp, .inl (cI, 10, .inl pr)), (mu, .inl (cI, 9, .inl ow))] H := hP
        have hD : va_D A [(mo, .inr (7, moV (nI nn) (nI mm) me mj mw mp mu (zb (ke = true)) bd ml (nI sq) mq fi gu le cs (zb (ba = true)) ov m1 m2 m3 m4 lk (zb (sp = true)) bs bo m5 m6 m7 su sl m8 lo sh)), (m1, .inl (cI, 10, .inl tr)), (m2, .inl (cI, 10, .inl fa)), (m3, .inl (cI, 10, .inl ga)), (m4, .inl (cI, 10, .inl la)), (m5, .inl (cI, 9, .inl bz)), (m6, .inl (cI, 1024, .inl (upd (fillP nn pr pz k) k (sumM pr (nI k) nn)))), (mj, .inl (cI, 10, .inl ne)), (mw, .inl (cI, 10, .inl wo)), (mp, .inl (cI, 10, .inl pr)), (mu, .inl (cI, 9, .inl ow))] := hD
        refine r_iinc (lv' := [(2, .int (nI (k + 1))), (0, .ref mo), (1, .int fire)]) hx hb 2 k dX7_seek_21 hl rfl (by decide) rfl (fun ls hl => ?_)
        refine lv_goto (tgt := 2) hx hb dX7_seek_24 (by decide) ?_
        exact ih_pl (k + 1) (by omega) (by omega) ls _ _ (lv_sub hl [1, 2, 0] rfl) (by rw [fillP_S]; exact hP) (by rw [fillP_S]; exact hD) hS
  exact pl _ 0 (by omega) (Nat.lt_succ_self _) ls _ _ (lv_sub hl [1, 2, 0] rfl) (by rw [fillP_0]; exact hP) (by rw [fillP_0]; exact hD) hS

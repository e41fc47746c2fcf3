/-! FireNets -/
def begC (fire : Int32) : Cs := (fire, 0, 0, 0, false, false, 0)
def planS (n : Int32) (pr ne ow pl : Row) (ke : Int32) (t : Nat) (x : Cs) : Cs := spreadC ne (putSetC n pr (if t ≤ 8 then pl (t - 1) else 0) (openC ow ke x))
def planA (n : Int32) (pr ne ow pl : Row) (ke fire : Int32) : Nat → Cs
  | 0 => begC fire
  | k + 1 => if (planA n pr ne ow pl ke fire k).2.2.2.2.2.1 = true ∨ (planA n pr ne ow pl ke fire k).2.2.2.2.1 = true then planA n pr ne ow pl ke fire k else planS n pr ne ow pl ke (k + 1) (planA n pr ne ow pl ke fire k)
theorem planA_stop {n : Int32} {pr ne ow pl : Row} {ke fire : Int32} {k : Nat} (h : (planA n pr ne ow pl ke fire k).2.2.2.2.2.1 = true ∨ (planA n pr ne ow pl ke fire k).2.2.2.2.1 = true) : ∀ j, planA n pr ne ow pl ke fire (k + j) = planA n pr ne ow pl ke fire k
  | 0 => rfl
  | j + 1 => by
    show (if (planA n pr ne ow pl ke fire (k + j)).2.2.2.2.2.1 = true ∨ (planA n pr ne ow pl ke fire (k + j)).2.2.2.2.1 = true then planA n pr ne ow pl ke fire (k + j) else _) = _
    rw [planA_stop h j, if_pos h]
theorem spreadC_tick (ne : Row) (x : Cs) : (spreadC ne x).2.2.1 = x.2.2.1 := by
  unfold spreadC
  split
  · rfl
  · split <;> rfl
theorem putSetC_tick (n : Int32) (pr : Row) (v : Int32) (x : Cs) : (putSetC n pr v x).2.2.1 = x.2.2.1 := by
  unfold putSetC
  split <;> rfl
theorem ruleA_tick (wo ne pr : Row) (ru : Int32) (x : Cs) : ∀ k, (ruleA wo ne pr ru x k).2.2.1 = x.2.2.1
  | 0 => rfl
  | k + 1 => by
    show (ruleS wo ne pr ru (ruleA wo ne pr ru x k)).2.2.1 = _
    unfold ruleS
    split
    · exact ruleA_tick wo ne pr ru x k
    · exact ruleA_tick wo ne pr ru x k
theorem planA_tick (n : Int32) (pr ne ow pl : Row) (ke fire : Int32) : ∀ k, (planA n pr ne ow pl ke fire k).2.2.1 ≤ k
  | 0 => Nat.le_refl 0
  | k + 1 => by
    have h := planA_tick n pr ne ow pl ke fire k
    show (if _ then planA n pr ne ow pl ke fire k else _).2.2.1 ≤ _
    split
    · omega
    · show (spreadC _ (putSetC _ _ _ (openC _ _ _))).2.2.1 ≤ _
      rw [spreadC_tick, putSetC_tick]
      show (planA n pr ne ow pl ke fire k).2.2.1 + 1 ≤ _
      omega
def liveS (wo pr ne ow : Row) (ke ru : Int32) (x : Cs) : Cs := spreadC ne (ruleA wo ne pr ru (openC ow ke x) 10)
def liveA (wo pr ne ow : Row) (ke ru fire : Int32) : Nat → Cs
  | 0 => begC fire
  | k + 1 => if (liveA wo pr ne ow ke ru fire k).2.2.2.2.2.1 = true ∨ (liveA wo pr ne ow ke ru fire k).2.2.2.2.1 = true then liveA wo pr ne ow ke ru fire k else liveS wo pr ne ow ke ru (liveA wo pr ne ow ke ru fire k)
theorem liveA_stop {wo pr ne ow : Row} {ke ru fire : Int32} {k : Nat} (h : (liveA wo pr ne ow ke ru fire k).2.2.2.2.2.1 = true ∨ (liveA wo pr ne ow ke ru fire k).2.2.2.2.1 = true) : ∀ j, liveA wo pr ne ow ke ru fire (k + j) = liveA wo pr ne ow ke ru fire k
  | 0 => rfl
  | j + 1 => by
    show (if (liveA wo pr ne ow ke ru fire (k + j)).2.2.2.2.2.1 = true ∨ (liveA wo pr ne ow ke ru fire (k + j)).2.2.2.2.1 = true then liveA wo pr ne ow ke ru fire (k + j) else _) = _
    rw [liveA_stop h j, if_pos h]
theorem liveA_tick (wo pr ne ow : Row) (ke ru fire : Int32) : ∀ k, (liveA wo pr ne ow ke ru fire k).2.2.1 ≤ k
  | 0 => Nat.le_refl 0
  | k + 1 => by
    have h := liveA_tick wo pr ne ow ke ru fire k
    show (if _ then liveA wo pr ne ow ke ru fire k else _).2.2.1 ≤ _
    split
    · omega
    · show (spreadC _ (ruleA _ _ _ _ (openC _ _ _) 10)).2.2.1 ≤ _
      rw [spreadC_tick, ruleA_tick]
      show (liveA wo pr ne ow ke ru fire k).2.2.1 + 1 ≤ _
      omega
def gcdA : Nat → Int64 → Int64 → Int64
  | 0, h, _ => h
  | f + 1, h, l => if lg_cmp l 0 = 0 then h else gcdA f l (h - h / l * l)
def fracI (u lo : Int64) (what : Int32) : Int64 := if lg_cmp (gcdA 100 u lo) 0 = 0 then (if what = 0 then u else lo) else (if what = 0 then u else lo) / gcdA 100 u lo
abbrev stI (n fire : Int32) : Prop := 1 ≤ fire ∧ fire ≤ allI n
def lineO (n m : Nat) (ne : Row) (a b : Int32) : Int32 :=
  if (0 ≤ a ∧ a ≤ nI n - 1) ∧ (0 ≤ b ∧ b ≤ nI n - 1) then if a = b then -1002 else if ¬ bt (ne a.toNatClampNeg) b = 0 then -1003 else if m < 24 then nI m else -1004 else -1001
def linkO (n m : Nat) (ne : Row) (a b : Int32) : Bool := decide (((0 ≤ a ∧ a ≤ nI n - 1) ∧ (0 ≤ b ∧ b ≤ nI n - 1)) ∧ a ≠ b ∧ bt (ne a.toNatClampNeg) b = 0 ∧ m < 24)
theorem net_ix {v : Int32} (h : 1 ≤ v ∧ v ≤ 10) : ∃ k : Nat, (1 ≤ k ∧ k ≤ 10) ∧ v = nI k := by
  obtain ⟨k, hk, rfl⟩ := i_ixe (n := 10) (Int32.le_trans (by decide) h.1) h.2 (by omega)
  exact ⟨k, ⟨(nI_leI (a := 1) (by omega) (by omega)).mp h.1, hk⟩, rfl⟩
def nodeT2 (wo pr : Row) (k what v : Int32) : Int32 × Row × Row := if what = 1 then if 1 ≤ v ∧ v ≤ 9 then (pr k.toNatClampNeg, wo, upd pr k.toNatClampNeg v) else (-1002, wo, pr) else (-1002, wo, pr)
def nodeT (n : Int32) (wo pr : Row) (k what v : Int32) : Int32 × Row × Row := if 0 ≤ k ∧ k ≤ n - 1 then if what = 0 then if 0 ≤ v ∧ v ≤ 9 then (wo k.toNatClampNeg, upd wo k.toNatClampNeg v, pr) else nodeT2 wo pr k what v else nodeT2 wo pr k what v else (-1001, wo, pr)
def purseT (ow : Row) (t v : Int32) : Int32 × Row := if 1 ≤ t ∧ t ≤ 8 then if 0 ≤ v ∧ v ≤ 20 then (ow (t - 1).toNatClampNeg, upd ow (t - 1).toNatClampNeg v) else (-1002, ow) else (-1002, ow)
def planT (pl : Row) (t v : Int32) : Int32 × Row := if 1 ≤ t ∧ t ≤ 8 then if 0 ≤ v ∧ v ≤ 1023 then (pl (t - 1).toNatClampNeg, upd pl (t - 1).toNatClampNeg v) else (-1002, pl) else (-1002, pl)
theorem tick_ix {t : Int32} (h : 1 ≤ t ∧ t ≤ 8) : ∃ k : Nat, (1 ≤ k ∧ k ≤ 8) ∧ t = nI k := by
  obtain ⟨k, hk, rfl⟩ := i_ixe (n := 8) (Int32.le_trans (by decide) h.1) h.2 (by omega)
  exact ⟨k, ⟨(nI_leI (a := 1) (by omega) (by omega)).mp h.1, hk⟩, rfl⟩
def ruleT2 (ke bd what v : Int32) : Int32 × Int32 × Int32 := if what = 1 then if 50 ≤ v ∧ v ≤ 1000 then (bd, ke, v) else (-1002, ke, bd) else (-1002, ke, bd)
def ruleT (ke bd what v : Int32) : Int32 × Int32 × Int32 := if what = 0 then if 0 ≤ v ∧ v ≤ 1 then (ke, v, bd) else ruleT2 ke bd what v else ruleT2 ke bd what v
def countO (nn mm : Nat) (wo : Row) (sq : Nat) (wt : Row) (what : Int32) : Int32 := if what = 0 then nI nn else if what = 1 then nI mm else if what = 2 then sumI wo (allI (nI nn)) 10 else if what = 3 then nI sq else if what = 4 then needA wt sq 20 else -1002
def playO (n : Int32) (wo : Row) (y : Cs) (fire what : Int32) : Int32 := if 1 ≤ fire ∧ fire ≤ allI n then if 0 ≤ what ∧ what ≤ 4 then if what = 0 then if y.2.2.2.2.1 = true then -1 else savedI n wo y.1 else if what = 1 then y.1 else if what = 2 then y.2.1 else if what = 3 then nI y.2.2.1 else y.2.2.2.1 else -1002 else -1002
def burnsO (n : Int32) (y : Cs) (fire tick : Int32) : Int32 := if 1 ≤ fire ∧ fire ≤ allI n then if 0 ≤ tick ∧ tick ≤ 20 then y.1 else -1002 else -1002
theorem tick20_ix {t : Int32} (h : 0 ≤ t ∧ t ≤ 20) : ∃ k : Nat, k ≤ 20 ∧ t = nI k := i_ixe (n := 20) h.1 h.2 (by omega)
def bestO (n : Int32) (y : Ss) (fire what : Int32) : Int32 := if 1 ≤ fire ∧ fire ≤ allI n then if 0 ≤ what ∧ what ≤ 11 then if what = 0 then y.2.1 else if what = 1 then y.1 else if what = 2 then if y.2.2.2.1 = true then 1 else 0 else if what = 3 then y.2.2.1 else y.2.2.2.2.2 (what - 4).toNatClampNeg else -1002 else -1002
theorem what_ix {w : Int32} (h : 0 ≤ w ∧ w ≤ 11) (h0 : ¬ w = 0) (h1 : ¬ w = 1) (h2 : ¬ w = 2) (h3 : ¬ w = 3) : ∃ t : Nat, (1 ≤ t ∧ t ≤ 8) ∧ w - 3 = nI t ∧ (w - 4).toNatClampNeg = t - 1 := by
  obtain ⟨k, hk, rfl⟩ := i_ixe (n := 11) h.1 h.2 (by omega)
  have e0 : k ≠ 0 := fun q => h0 (by rw [q]; rfl)
  have e1 : k ≠ 1 := fun q => h1 (by rw [q]; rfl)
  have e2 : k ≠ 2 := fun q => h2 (by rw [q]; rfl)
  have e3 : k ≠ 3 := fun q => h3 (by rw [q]; rfl)
  refine ⟨k - 3, ⟨by omega, by omega⟩, pk_sub (a := k) (b := 3) (by omega), ?_⟩
  have : nI k - 4 = nI (k - 4) := pk_sub (a := k) (b := 4) (by omega)
  rw [this, nI_clamp (by omega)]
  omega
def takeO (n : Int32) (y : Ss) (fire : Int32) : Int32 := if 1 ≤ fire ∧ fire ≤ allI n then y.2.1 else -1002
def leaF (wl : Nat → Int32) (wanted : Int32) : Nat → Nat → Int32
  | 0, _ => -1
  | f + 1, v => if wl v < wanted then leaF wl wanted f (v + 1) else nI v
def leastO (n : Int32) (wl : Nat → Int32) (fire wanted : Int32) : Int32 := if 1 ≤ fire ∧ fire ≤ allI n then if 0 ≤ wanted ∧ wanted ≤ 90 then leaF wl wanted 21 0 else -1002 else -1002
def liveO (n : Int32) (wo : Row) (y : Cs) (rule fire what : Int32) : Int32 := if 0 ≤ rule ∧ rule ≤ 2 then if 1 ≤ fire ∧ fire ≤ allI n then if 0 ≤ what ∧ what ≤ 2 then if what = 0 then savedI n wo y.1 else if what = 1 then y.2.1 else nI y.2.2.1 else -1002 else -1002 else -1002
def shareO (n : Int32) (part wl : Int32) (rule fire what : Int32) : Int32 := if 0 ≤ rule ∧ rule ≤ 2 then if 1 ≤ fire ∧ fire ≤ allI n then if 0 ≤ what ∧ what ≤ 1 then if 0 < wl then (fracI part.toInt64 wl.toInt64 what).toInt32 else 1 else -1002 else -1002 else -1002
/-- worst, upper, lower -/
def worS (pa wl : Nat → Int32) (k : Nat) (q : Int32 × Int32 × Int32) : Int32 × Int32 × Int32 :=
  if 0 < wl k then if nI k = 0 then (nI k, pa k, wl k) else if pa k * q.2.2 < q.2.1 * wl k then (nI k, pa k, wl k) else q
  else if nI k = 0 then (nI k, 1, 1) else if 1 * q.2.2 < q.2.1 * 1 then (nI k, 1, 1) else q
def worA (pa wl : Nat → Int32) : Nat → Int32 × Int32 × Int32
  | 0 => (0, 0, 0)
  | k + 1 => worS pa wl k (worA pa wl k)
def worstO (nn : Nat) (pa wl : Nat → Int32) (rule : Int32) : Int32 := if 0 ≤ rule ∧ rule ≤ 2 then (worA pa wl nn).1 else -1002
def meaA (pa : Nat → Int32) (starts : Int32) : Nat → Int32
  | 0 => 0
  | k + 1 => if ¬ bt starts (nI k) = 0 then meaA pa starts k + pa k else meaA pa starts k
def meanO (n : Int32) (pa : Nat → Int32) (rule starts what : Int32) : Int32 := if 0 ≤ rule ∧ rule ≤ 2 then if 1 ≤ starts ∧ starts ≤ allI n then if 0 ≤ what ∧ what ≤ 1 then (fracI (meaA pa starts 10).toInt64 (popI starts).toInt64 what).toInt32 else -1002 else -1002 else -1002
def chanO (nn mm : Nat) (en ec : Row) (k fire gu a b what : Int32) : Int64 :=
  if 0 ≤ k ∧ k ≤ nI nn - 1 then if 1 ≤ fire ∧ fire ≤ allI (nI nn) then if 0 ≤ gu ∧ gu ≤ allI (nI nn) then if 1 ≤ b ∧ b ≤ 6 then if 0 ≤ a ∧ a ≤ b then if 0 ≤ what ∧ what ≤ 1 then if mm ≤ 12 then
    fracI (wF (cpF en ec 12) (gu &&& (fire ^^^ (-1))) a (b - a) ((1 : Int32) <<< (k &&& 31)) mm mm fire 0) (powL (a + (b - a)).toInt64 mm) what else -1003 else -1002 else -1002 else -1002 else -1002 else -1002 else -1001
def wallO (wx wy : Row) (sq : Nat) (x y t : Int32) : Int32 :=
  if -30 ≤ x ∧ x ≤ 30 then if -30 ≤ y ∧ y ≤ 30 then if x = 0 ∧ y = 0 then -1002 else if 1 ≤ t ∧ t ≤ 20 then if isWB wx wy x y sq = true then -1003 else if sq < 40 then nI (sq + 1) else -1004 else -1002 else -1002 else -1002
def wallB (wx wy : Row) (sq : Nat) (x y t : Int32) : Bool := decide ((-30 ≤ x ∧ x ≤ 30) ∧ (-30 ≤ y ∧ y ≤ 30) ∧ ¬ (x = 0 ∧ y = 0) ∧ (1 ≤ t ∧ t ≤ 20) ∧ isWB wx wy x y sq = false ∧ sq < 40)
def boardO (y : Bs) (what : Int32) : Int32 := if 0 ≤ what ∧ what ≤ 3 then if what = 0 then y.1 else if what = 1 then brtA y.2.2.1 49 else if what = 2 then y.2.1 else rchA y.2.2.1 49 else -1002
def rmX3_renew : Room := { frames := 1, cells := 0, slots := 0, locals := 23 }
theorem kdX3_renew : yX3_renew.cls = RX3 ∧ yX3_renew.cls ≠ "java/lang/invoke/MethodHandle" ∧ yX3_renew.cls ≠ "java/lang/invoke/VarHandle" ∧ (parseMethodDescriptor yX3_renew.desc).map (fun d => d.parameters.length) = some 1 := ⟨rfl, by decide +kernel, by decide +kernel, by decide +kernel⟩
set_option maxRecDepth 100000 in
set_option maxHeartbeats 1000000 in
theorem kX3_renew (l : Launch) (D : va_G) (cI cJ : ClassId) (nt : Nat) (nn : Nat) (mm : Nat) (aw : Nat) (ap : Nat) (an : Nat) (ae : Nat) (wo : Row) (pr : Row) (ne : Row) (v : Nat)  : Met l yX3_renew wsX3_renew rmX3_renew (mPre D cI cJ [.ref nt, .int (nI v)] [(nt, .inr (3, [.int (nI nn), .int (nI mm), .ref aw, .ref ap, .ref an, .ref ae])), (aw, .inl (cI, 10, .inl wo)), (ap, .inl (cI, 10, .inl pr)), (an, .inl (cI, 10, .inl ne))]) (mQv D (fun (_ : Unit) => True) (fun (_ : Unit) => [(nt, .inr (3, [.int (nI v), .int (nI 0), .ref aw, .ref ap, .ref an, .ref ae])), (aw, .inl (cI, 10, .inl (fillF wo 1 10))), (ap, .inl (cI, 10, .inl (fillF pr 1 10))), (an, .inl (cI, 10, .inl (fillF ne 0 10)))]) [(nt, .inr (3, [.int (nI nn), .int (nI mm), .ref aw, .ref ap, .ref an, .ref ae])), (aw, .inl (cI, 10, .inl wo)), (ap, .inl (cI, 10, .inl pr)), (an, .inl (cI, 10, .inl ne))]) 0 0 (mA [(nt, .inr (3, [.int (nI nn), .int (nI mm), .ref aw, .ref ap, .ref an, .ref ae])), (aw, .inl (cI, 10, .inl wo)), (ap, .inl (cI, 10, .inl pr)), (an, .inl (cI, 10, .inl ne))]) := by
  refine startM (cc := cX3_renew) (maxL := 2) (ret := none) (by decide) rfl (Nat.le_of_ble_eq_true rfl) ?_
  intro p e s m args below meth c ls Q A hA hQ hx hb hr hlocks hml hown hts hK hN hP hD hl hin
  have hown : s.vm.findClass RX3 = some m.cls := hown
  have hi_3 : ∀ w ∈ wsX30, w ∈ wsX3_renew := by decide +kernel
  have hf_9 := hts (.fieldLink RX3 9 "FireNets$Net" "worth" "[I") (by decide +kernel)
  have hf_15 := hts (.fieldLink RX3 15 "FireNets$Net" "price" "[I") (by decide +kernel)
  have hf_18 := hts (.fieldLink RX3 18 "FireNets$Net" "near" "[I") (by decide +kernel)
  have hf_28 := hts (.fieldLink RX3 28 "FireNets$Net" "nodes" "I") (by decide +kernel)
  have hf_32 := hts (.fieldLink RX3 32 "FireNets$Net" "lines" "I") (by decide +kernel)
  have hS : va_S A s.heap s.heap [] := va_S.rf
  have hl : lv_has ls 2 [(0, .ref nt), (1, .int (nI v))] := hl
  have hP : va_P D vwCl [(nt, .inr (3, [.int (nI nn), .int (nI mm), .ref aw, .ref ap, .ref an, .ref ae])), (aw, .inl (cI, 10, .inl wo)), (ap, .inl (cI, 10, .inl pr)), (an, .inl (cI, 10, .inl ne))] s.heap := hP
  refine lv_aload_n hx hb dX3_renew_0 rfl (lv_at hl 0 rfl) ?_
  refine lv_iload_n hx hb dX3_renew_1 rfl (lv_at hl 1 rfl) ?_
  refine va_put (D := D) (ci := 3) (v := .int (nI v)) (ty := .int) (C := RX3) (T := TX3) (N := 6) hx hb hts hi_3 tyX3 tyX3_ok nmX3 hown hK hP hD hS 0 rfl rfl 0 (by decide) hf_28 (fun _ h9 => h9) rfl (by decide +kernel) rfl rfl (Nat.le_of_ble_eq_true rfl) dX3_renew_2 (fun H locs hP hD hS => ?_)
  have hP : va_P D vwCl [(nt, .inr (3, [.int (nI v), .int (nI mm), .ref aw, .ref ap, .ref an, .ref ae])), (aw, .inl (cI, 10, .inl wo)), (ap, .inl (cI, 10, .inl pr)), (an, .inl (cI, 10, .inl ne))] H := hP
  have hD : va_D A [(nt, .inr (3, [.int (nI v), .int (nI mm), .ref aw, .ref ap, .ref an, .ref ae])), (aw, .inl (cI, 10, .inl wo)), (ap, .inl (cI, 10, .inl pr)), (an, .inl (cI, 10, .inl ne))] := hD
  refine lv_aload_n hx hb dX3_renew_5 rfl (lv_at hl 0 rfl) ?_
  refine lv_iconst (v := 0) hx hb dX3_renew_6 (by decide) ?_
  refine va_put (D := D) (ci := 3) (v := .int 0) (ty := .int) (C := RX3) (T := TX3) (N := 6) hx hb hts hi_3 tyX3 tyX3_ok nmX3 hown hK hP hD hS 0 rfl rfl 1 (by decide) hf_32 (fun _ h9 => h9) rfl (by decide +kernel) rfl rfl (Nat.le_of_ble_eq_true rfl) dX3_renew_7 (fun H locs hP hD hS => ?_)
  have hP : va_P D vwCl [(nt, .inr (3, [.int (nI v), .int 0, .ref aw, .ref ap, .ref an, .ref ae])), (aw, .inl (cI, 10, .inl wo)), (ap, .inl (cI, 10, .inl pr)), (an, .inl (cI, 10, .inl ne))] H := hP
  have hD : va_D A [(nt, .inr (3, [.int (nI v), .int 0, .ref aw, .ref ap, .ref an, .ref ae])), (aw, .inl (cI, 10, .inl wo)), (ap, .inl (cI, 10, .inl pr)), (an, .inl (cI, 10, .inl ne))] := hD
  refine lv_aload_n hx hb dX3_renew_10 rfl (lv_at hl 0 rfl) ?_
  refine va_get (D := D) (ci := 3) (v := .ref aw) (C := RX3) (T := TX3) (N := 6) hx hb hts hi_3 hown hK hP 0 rfl rfl 2 (by decide) hf_9 (fun _ h9 => h9) rfl dX3_renew_11 ?_
  refine lv_iconst (v := 1) hx hb dX3_renew_14 (by decide) ?_
  refine goMV hP hD hS (va_runS (As := [.ref aw, .int 1]) (rest := []) ⟨hx, hb, hml, hown, hts⟩ (kJ7_fill_53178 l D cI cJ aw 10 wo 1 (by omega)) (va_cwS 2 hts gX3_renew_J7_fill_53178 rfl rfl rfl kdJ7_fill_53178.2 ⟨Nat.le_of_ble_eq_true rfl, Nat.le_of_ble_eq_true rfl⟩) (preM hK hN hP hD [1] rfl (by decide)) rfl rfl hl.1 rfl (lv_room (Nat.le_of_ble_eq_true rfl)) dX3_renew_15 ⟨Nat.zero_le _, Nat.zero_le _⟩) [1] rfl (by decide) (fun _ => (show ([aw] : List Nat) = [aw] from rfl)) (fun _ H locs hp_15 hP hD hS => ?_)
  have hP : va_P D vwCl [(nt, .inr (3, [.int (nI v), .int 0, .ref aw, .ref ap, .ref an, .ref ae])), (aw, .inl (cI, 10, .inl (fillF wo 1 10))), (ap, .inl (cI, 10, .inl pr)), (an, .inl (cI, 10, .inl ne))] H := hP
  have hD : va_D A [(nt, .inr (3, [.int (nI v), .int 0, .ref aw, .ref ap, .ref an, .ref ae])), (aw, .inl (cI, 10, .inl (fillF wo 1 10))), (ap, .inl (cI, 10, .inl pr)), (an, .inl (cI, 10, .inl ne))] := hD
  refine lv_aload_n hx hb dX3_renew_18 rfl (lv_at hl 0 rfl) ?_
  refine va_get (D := D) (ci := 3) (v := .ref ap) (C := RX3) (T := TX3) (N := 6) hx hb hts hi_3 hown hK hP 0 rfl rfl 3 (by decide) hf_15 (fun _ h9 => h9) rfl dX3_renew_19 ?_
  refine lv_iconst (v := 1) hx hb dX3_renew_22 (by decide) ?_
  refine goMV hP hD hS (va_runS (As := [.ref ap, .int 1]) (rest := []) ⟨hx, hb, hml, hown, hts⟩ (kJ7_fill_53178 l D cI cJ ap 10 pr 1 (by omega)) (va_cwS 2 hts gX3_renew_J7_fill_53178 rfl rfl rfl kdJ7_fill_53178.2 ⟨Nat.le_of_ble_eq_true rfl, Nat.le_of_ble_eq_true rfl⟩) (preM hK hN hP hD [2] rfl (by decide)) rfl rfl hl.1 rfl (lv_room (Nat.le_of_ble_eq_true rfl)) dX3_renew_23 ⟨Nat.zero_le _, Nat.zero_le _⟩) [2] rfl (by decide) (fun _ => (show ([ap] : List Nat) = [ap] from rfl)) (fun _ H locs hp_23 hP hD hS => ?_)
  have hP : va_P D vwCl [(nt, .inr (3, [.int (nI v), .int 0, .ref aw, .ref ap, .ref an, .ref ae])), (aw, .inl (cI, 10, .inl (fillF wo 1 10))), (ap, .inl (cI, 10, .inl (fillF pr 1 10))), (an, .inl (cI, 10, .inl ne))] H := hP
  have hD : va_D A [(nt, .inr (3, [.int (nI v), .int 0, .ref aw, .ref ap, .ref an, .ref ae])), (aw, .inl (cI, 10, .inl (fillF wo 1 10))), (ap, .inl (cI, 10, .inl (fillF pr 1 10))), (an, .inl (cI, 10, .inl ne))] := hD
  refine lv_aload_n hx hb dX3_renew_26 rfl (lv_at hl 0 rfl) ?_
  refine va_get (D := D) (ci := 3) (v := .ref an) (C := RX3) (T := TX3) (N := 6) hx hb hts hi_3 hown hK hP 0 rfl rfl 4 (by decide) hf_18 (fun _ h9 => h9) rfl dX3_renew_27 ?_
  refine lv_iconst (v := 0) hx hb dX3_renew_30 (by decide) ?_
  refine goMV hP hD hS (va_runS (As := [.ref an, .int 0]) (rest := []) ⟨hx, hb, hml, hown, hts⟩ (kJ7_fill_53178 l D cI cJ an 10 ne 0 (by omega)) (va_cwS 2 hts gX3_renew_J7_fill_53178 rfl rfl rfl kdJ7_fill_53178.2 ⟨Nat.le_of_ble_eq_true rfl, Nat.le_of_ble_eq_true rfl⟩) (preM hK hN hP hD [3] rfl (by decide)) rfl rfl hl.1 rfl (lv_room (Nat.le_of_ble_eq_true rfl)) dX3_renew_31 ⟨Nat.zero_le _, Nat.zero_le _⟩) [3] rfl (by decide) (fun _ => (show ([an] : List Nat) = [an] from rfl)) (fun _ H locs hp_31 hP hD hS => ?_)
  have hP : va_P D vwCl [(nt, .inr (3, [.int (nI v), .int 0, .ref aw, .ref ap, .ref an, .ref ae])), (aw, .inl (cI, 10, .inl (fillF wo 1 10))), (ap, .inl (cI, 10, .inl (fillF pr 1 10))), (an, .inl (cI, 10, .inl (fillF ne 0 10)))] H := hP
  have hD : va_D A [(nt, .inr (3, [.int (nI v), .int 0, .ref aw, .ref ap, .ref an, .ref ae])), (aw, .inl (cI, 10, .inl (fillF wo 1 10))), (ap, .inl (cI, 10, .inl (fillF pr 1 10))), (an, .inl (cI, 10, .inl (fillF ne 0 10)))] := hD
  exact endMV () hx hb hr hlocks hA hQ hS hP dX3_renew_34 rfl trivial
def rmX6_commonDivisor : Room := { frames := 0, cells := 0, slots := 0, locals := 0 }
theorem kdX6_commonDivisor : yX6_commonDivisor.cls = RX6 ∧ yX6_commonDivisor.cls ≠ "java/lang/invoke/MethodHandle" ∧ yX6_commonDivisor.cls ≠ "java/lang/invoke/VarHandle" ∧ (parseMethodDescriptor yX6_commonDivisor.desc).map (fun d => d.parameters.length) = some 2 := ⟨rfl, by decide +kernel, by decide +kernel, by decide +kernel⟩
set_option maxRecDepth 100000 in
set_option maxHeartbeats 1000000 in
theorem kX6_commonDivisor (l : Launch) (D : va_G) (cI cJ : ClassId) (u lo : Int64) (y : Int64) (hy : y = gcdA 100 u lo) : Met l yX6_commonDivisor wsX6_commonDivisor rmX6_commonDivisor (rPre D cI cJ [.long u, .long lo] []) (qRL y) 0 0 nA := by
  refine startR (cc := cX6_commonDivisor) (maxL := 11) (ret := (some .long)) (by decide) rfl (Nat.le_of_ble_eq_true rfl) ?_
  intro p e s m args below meth c ls Q hQ hx hb hr hlocks hml hown hts hK hN hP hl hin
  have hown : s.vm.findClass RX6 = some m.cls := hown
  have hS : va_S nA s.heap s.heap [] := va_S.rf
  have hl : lv_has ls 11 [(0, .long u), (2, .long lo)] := hl
  have hP : va_P D vwCl [] s.heap := hP
  subst hy
  refine lv_lload_n hx hb dX6_commonDivisor_0 rfl (lv_at hl 0 rfl) ?_
  refine lv_lstore (lv' := [(4, .long u), (0, .long u), (2, .long lo)]) hx hb dX6_commonDivisor_1 hl (by decide) rfl (fun ls hl => ?_)
  refine lv_lload_n hx hb dX6_commonDivisor_3 rfl (lv_at hl 2 rfl) ?_
  refine lv_lstore (lv' := [(6, .long lo), (4, .long u), (0, .long u), (2, .long lo)]) hx hb dX6_commonDivisor_4 hl (by decide) rfl (fun ls hl => ?_)
  refine lv_iconst (v := 0) hx hb dX6_commonDivisor_6 (by decide) ?_
  refine lv_istore (lv' := [(8, .int 0), (6, .long lo), (4, .long u), (0, .long u), (2, .long lo)]) hx hb dX6_commonDivisor_7 hl (by decide) rfl (fun ls hl => ?_)
  have lp : ∀ (fu : Nat) (k : Nat) (a b : Int64), (k ≤ 100) → (gcdA (100 - k) a b = gcdA 100 u lo) → 100 - k < fu → ∀ (ls : Array Slot) (H : Heap) (locs : List Loc), lv_has ls 11 [(4, .long a), (6, .long b), (8, .int (nI k))] → va_P D vwCl [] H → va_S nA s.heap H locs → W p l e rmX6_commonDivisor s m args below meth c H locs 0 0 Q (F0 m 9 ls []) := by
    intro fu
    induction fu with
    | zero => intro k a b hk hq hf; exact absurd hf (Nat.not_lt_zero _)
    | succ fu ih_lp =>
      intro k a b hk hq hf ls H locs hl hP hS
      refine lv_iload hx hb dX6_commonDivisor_9 (lv_at hl 2 rfl) ?_
      refine lv_bipush (v := 100) hx hb dX6_commonDivisor_11 (by decide) ?_
      refine r_icmp_ge (tgt := 44) hx hb k 100 dX6_commonDivisor_13 (by decide) rfl rfl (by omega) (by omega) (fun c_13 => ?_) (fun c_13 => ?_)
      · refine lv_lload hx hb dX6_commonDivisor_44 (lv_at hl 0 rfl) ?_
        exact endRL hx hb hr hlocks hQ hS dX6_commonDivisor_46 (by rw [← hq, show 100 - k = 0 by omega, gcdA])
      · refine lv_lload hx hb dX6_commonDivisor_16 (lv_at hl 1 rfl) ?_
        refine lv_lconst (v := 0) hx hb dX6_commonDivisor_18 (by decide) ?_
        refine W.lcmp hx hb dX6_commonDivisor_19 ?_
        refine lv_if_eq (tgt := 44) hx hb dX6_commonDivisor_20 (by decide) (fun c_20 => ?_) (fun c_20 => ?_)
        · refine lv_lload hx hb dX6_commonDivisor_44 (lv_at hl 0 rfl) ?_
          exact endRL hx hb hr hlocks hQ hS dX6_commonDivisor_46 (by rw [← hq, show 100 - k = (99 - k) + 1 by omega, gcdA, if_pos c_20])
        · refine lv_lload hx hb dX6_commonDivisor_23 (lv_at hl 0 rfl) ?_
          refine lv_lload hx hb dX6_commonDivisor_25 (lv_at hl 1 rfl) ?_
          refine lv_lrem hx hb dX6_commonDivisor_27 (fun h => c_20 (by rw [h]; rfl)) ?_
          refine lv_lstore (lv' := [(9, .long (a - a / b * b)), (4, .long a), (6, .long b), (8, .int (nI k))]) hx hb dX6_commonDivisor_28 hl (by decide) rfl (fun ls hl => ?_)
          refine lv_lload hx hb dX6_commonDivisor_30 (lv_at hl 2 rfl) ?_
          refine lv_lstore (lv' := [(4, .long b), (9, .long (a - a / b * b)), (6, .long b), (8, .int (nI k))]) hx hb dX6_commonDivisor_32 hl (by decide) rfl (fun ls hl => ?_)
          refine lv_lload hx hb dX6_commonDivisor_34 (lv_at hl 1 rfl) ?_
          refine lv_lstore (lv' := [(6, .long (a - a / b * b)), (4, .long b), (9, .long (a - a / b * b)), (8, .int (nI k))]) hx hb dX6_commonDivisor_36 hl (by decide) rfl (fun ls hl => ?_)
          refine r_iinc (lv' := [(8, .int (nI (k + 1))), (6, .long (a - a / b * b)), (4, .long b), (9, .long (a - a / b * b))]) hx hb 3 k dX6_commonDivisor_38 hl rfl (by decide) rfl (fun ls hl => ?_)
          refine lv_goto (tgt := 9) hx hb dX6_commonDivisor_41 (by decide) ?_
          exact ih_lp (k + 1) b (a - a / b * b) (by omega) (by rw [← hq, show 100 - k = (100 - (k + 1)) + 1 by omega, gcdA, if_neg c_20]) (by omega) ls _ _ (lv_sub hl [2, 1, 0] rfl) hP hS
  exact lp _ 0 u lo (by omega) rfl (Nat.lt_succ_self _) ls _ _ (lv_sub hl [2, 1, 0] rfl) hP hS
def rmX6_fractionPart : Room := { frames := 1, cells := 0, slots := 0, locals := 30 }
theorem kdX6_fractionPart : yX6_fractionPart.cls = RX6 ∧ yX6_fractionPart.cls ≠ "java/lang/invoke/MethodHandle" ∧ yX6_fractionPart.cls ≠ "java/lang/invoke/VarHandle" ∧ (parseMethodDescriptor yX6_fractionPart.desc).map (fun d => d.parameters.length) = some 3 := ⟨rfl, by decide +kernel, by decide +kernel, by decide +kernel⟩
set_option maxRecDepth 100000 in
set_option maxHeartbeats 1000000 in
theorem kX6_fractionPart (l : Launch) (D : va_G) (cI cJ : ClassId) (u lo : Int64) (what : Int32)  : Met l yX6_fractionPart wsX6_fractionPart rmX6_fractionPart (rPre D cI cJ [.long u, .long lo, .int what] []) (qRL (fracI u lo what)) 0 0 nA := by
  refine startR (cc := cX6_fractionPart) (maxL := 9) (ret := (some .long)) (by decide) rfl (Nat.le_of_ble_eq_true rfl) ?_
  intro p e s m args below meth c ls Q hQ hx hb hr hlocks hml hown hts hK hN hP hl hin
  have hown : s.vm.findClass RX6 = some m.cls := hown
  have hS : va_S nA s.heap s.heap [] := va_S.rf
  have hl : lv_has ls 9 [(0, .long u), (2, .long lo), (4, .int what)] := hl
  have hP : va_P D vwCl [] s.heap := hP
  refine lv_iload hx hb dX6_fractionPart_0 (lv_at hl 2 rfl) ?_
  refine lv_if_ne (tgt := 9) hx hb dX6_fractionPart_2 (by decide) (fun c_2 => ?_) (fun c_2 => ?_)
  · refine lv_lload_n hx hb dX6_fractionPart_9 rfl (lv_at hl 1 rfl) ?_
    refine lv_lstore (lv' := [(5, .long lo), (0, .long u), (2, .long lo), (4, .int what)]) hx hb dX6_fractionPart_10 hl (by decide) rfl (fun ls hl => ?_)
    refine lv_lload_n hx hb dX6_fractionPart_12 rfl (lv_at hl 1 rfl) ?_
    refine lv_lload_n hx hb dX6_fractionPart_13 rfl (lv_at hl 2 rfl) ?_
    obtain ⟨y_14, hy_14⟩ : ∃ z : Int64, z = gcdA 100 u lo := ⟨_, rfl⟩
    refine goRL hP hS (va_runS (As := [.long u, .long lo]) (rest := []) ⟨hx, hb, hml, hown, hts⟩ (kX6_commonDivisor l D cI cJ u lo y_14 hy_14) (va_cwS 2 hts gX6_fractionPart_X6_commonDivisor rfl rfl rfl kdX6_commonDivisor.2 ⟨Nat.le_of_ble_eq_true rfl, Nat.le_of_ble_eq_true rfl⟩) (preR hK hN hP [] rfl) rfl rfl hl.1 rfl (lv_room (Nat.le_of_ble_eq_true rfl)) dX6_fractionPart_14 ⟨Nat.zero_le _, Nat.zero_le _⟩) (fun H locs hP hS => ?_)
    refine lv_lstore (lv' := [(7, .long y_14), (5, .long lo), (0, .long u), (2, .long lo), (4, .int what)]) hx hb dX6_fractionPart_17 hl (by decide) rfl (fun ls hl => ?_)
    refine lv_lload hx hb dX6_fractionPart_19 (lv_at hl 0 rfl) ?_
    refine lv_lconst (v := 0) hx hb dX6_fractionPart_21 (by decide) ?_
    refine W.lcmp hx hb dX6_fractionPart_22 ?_
    refine lv_if_ne (tgt := 31) hx hb dX6_fractionPart_23 (by decide) (fun c_23 => ?_) (fun c_23 => ?_)
    · refine lv_lload hx hb dX6_fractionPart_31 (lv_at hl 1 rfl) ?_
      refine lv_lload hx hb dX6_fractionPart_33 (lv_at hl 0 rfl) ?_
      refine lv_ldiv hx hb dX6_fractionPart_35 (fun h => c_23 (by rw [h]; rfl)) ?_
      exact endRL hx hb hr hlocks hQ hS dX6_fractionPart_36 (by unfold fracI; rw [← hy_14, if_neg c_23, if_neg c_2])
    · refine lv_lload hx hb dX6_fractionPart_26 (lv_at hl 1 rfl) ?_
      refine lv_goto (tgt := 36) hx hb dX6_fractionPart_28 (by decide) ?_
      exact endRL hx hb hr hlocks hQ hS dX6_fractionPart_36 (by unfold fracI; rw [← hy_14, if_pos c_23, if_neg c_2])
  · refine lv_lload_n hx hb dX6_fractionPart_5 rfl (lv_at hl 0 rfl) ?_
    refine lv_goto (tgt := 10) hx hb dX6_fractionPart_6 (by decide) ?_
    refine lv_lstore (lv' := [(5, .long u), (0, .long u), (2, .long lo), (4, .int what)]) hx hb dX6_fractionPart_10 hl (by decide) rfl (fun ls hl => ?_)
    refine lv_lload_n hx hb dX6_fractionPart_12 rfl (lv_at hl 1 rfl) ?_
    refine lv_lload_n hx hb dX6_fractionPart_13 rfl (lv_at hl 2 rfl) ?_
    obtain ⟨y_14, hy_14⟩ : ∃ z : Int64, z = gcdA 100 u lo := ⟨_, rfl⟩
    refine goRL hP hS (va_runS (As := [.long u, .long lo]) (rest := []) ⟨hx, hb, hml, hown, hts⟩ (kX6_commonDivisor l D cI cJ u lo y_14 hy_14) (va_cwS 2 hts gX6_fractionPart_X6_commonDivisor rfl rfl rfl kdX6_commonDivisor.2 ⟨Nat.le_of_ble_eq_true rfl, Nat.le_of_ble_eq_true rfl⟩) (preR hK hN hP [] rfl) rfl rfl hl.1 rfl (lv_room (Nat.le_of_ble_eq_true rfl)) dX6_fractionPart_14 ⟨Nat.zero_le _, Nat.zero_le _⟩) (fun H locs hP hS => ?_)
    refine lv_lstore (lv' := [(7, .long y_14), (5, .long u), (0, .long u), (2, .long lo), (4, .int what)]) hx hb dX6_fractionPart_17 hl (by decide) rfl (fun ls hl => ?_)
    refine lv_lload hx hb dX6_fractionPart_19 (lv_at hl 0 rfl) ?_
    refine lv_lconst (v := 0) hx hb dX6_fractionPart_21 (by decide) ?_
    refine W.lcmp hx hb dX6_fractionPart_22 ?_
    refine lv_if_ne (tgt := 31) hx hb dX6_fractionPart_23 (by decide) (fun c_23 => ?_) (fun c_23 => ?_)
    · refine lv_lload hx hb dX6_fractionPart_31 (lv_at hl 1 rfl) ?_
      refine lv_lload hx hb dX6_fractionPart_33 (lv_at hl 0 rfl) ?_
      refine lv_ldiv hx hb dX6_fractionPart_35 (fun h => c_23 (by rw [h]; rfl)) ?_
      exact endRL hx hb hr hlocks hQ hS dX6_fractionPart_36 (by unfold fracI; rw [← hy_14, if_neg c_23, if_pos c_2])
    · refine lv_lload hx hb dX6_fractionPart_26 (lv_at hl 1 rfl) ?_
      refine lv_goto (tgt := 36) hx hb dX6_fractionPart_28 (by decide) ?_
      exact endRL hx hb hr hlocks hQ hS dX6_fractionPart_36 (by unfold fracI; rw [← hy_14, if_pos c_23, if_pos c_2])
def rmX6_net : Room := { frames := 2, cells := 0, slots := 0, locals := 44 }
theorem kdX6_net : yX6_net.cls = RX6 ∧ yX6_net.cls ≠ "java/lang/invoke/MethodHandle" ∧ yX6_net.cls ≠ "java/lang/invoke/VarHandle" ∧ (parseMethodDescriptor yX6_net.desc).map (fun d => d.parameters.length) = some 1 := ⟨rfl, by decide +kernel, by decide +kernel, by decide +kernel⟩
set_option maxRecDepth 100000 in
set_option maxHeartbeats 1000000 in
theorem kX6_net (l : Launch) (D : va_G) (cI cJ : ClassId) (fn : Nat) (nt : Nat) (pu : Nat) (al : Nat) (co : Nat) (se : Nat) (ch : Nat) (bo : Nat) (bd : Int32) (nn : Nat) (mm : Nat) (aw : Nat) (ap : Nat) (an : Nat) (ae : Nat) (wo : Row) (pr : Row) (ne : Row) (pl : Row) (v : Int32)  : Met l yX6_net wsX6_net rmX6_net (mPre D cI cJ [.ref fn, .int v] [(fn, .inr (6, [.ref nt, .ref pu, .ref al, .ref co, .ref se, .ref ch, .ref bo, .int bd])), (nt, .inr (3, [.int (nI nn), .int (nI mm), .ref aw, .ref ap, .ref an, .ref ae])), (aw, .inl (cI, 10, .inl wo)), (ap, .inl (cI, 10, .inl pr)), (an, .inl (cI, 10, .inl ne)), (al, .inl (cI, 8, .inl pl))]) (mQi D (fun (r : Int32) (_ : Unit) => r = (if 1 ≤ v ∧ v ≤ 10 then 1 else -1002)) (fun (_ : Unit) => [(fn, .inr (6, [.ref nt, .ref pu, .ref al, .ref co, .ref se, .ref ch, .ref bo, .int bd])), (nt, .inr (3, [.int (nI (if 1 ≤ v ∧ v ≤ 10 then v.toNatClampNeg else nn)), .int (nI (if 1 ≤ v ∧ v ≤ 10 then 0 else mm)), .ref aw, .ref ap, .ref an, .ref ae])), (aw, .inl (cI, 10, .inl (if 1 ≤ v ∧ v ≤ 10 then fillF wo 1 10 else wo))), (ap, .inl (cI, 10, .inl (if 1 ≤ v ∧ v ≤ 10 then fillF pr 1 10 else pr))), (an, .inl (cI, 10, .inl (if 1 ≤ v ∧ v ≤ 10 then fillF ne 0 10 else ne))), (al, .inl (cI, 8, .inl (if 1 ≤ v ∧ v ≤ 10 then fillF pl 0 8 else pl)))]) [(fn, .inr (6, [.ref nt, .ref pu, .ref al, .ref co, .ref se, .ref ch, .ref bo, .int bd])), (nt, .inr (3, [.int (nI nn), .int (nI mm), .ref aw, .ref ap, .ref an, .ref ae])), (aw, .inl (cI, 10, .inl wo)), (ap, .inl (cI, 10, .inl pr)), (an, .inl (cI, 10, .inl ne)), (al, .inl (cI, 8, .inl pl))]) 0 0 (mA [(fn, .inr (6, [.ref nt, .ref pu, .ref al, .ref co, .ref se, .ref ch, .ref bo, .int bd])), (nt, .inr (3, [.int (nI nn), .int (nI mm), .ref aw, .ref ap, .ref an, .ref ae])), (aw, .inl (cI, 10, .inl wo)), (ap, .inl (cI, 10, .inl pr)), (an, .inl (cI, 10, .inl ne)), (al, .inl (cI, 8, .inl pl))]) := by
  refine startM (cc := cX6_net) (maxL := 2) (ret := (some .int)) (by decide) rfl (Nat.le_of_ble_eq_true rfl) ?_
  intro p e s m args below meth c ls Q A hA hQ hx hb hr hlocks hml hown hts hK hN hP hD hl hin
  have hown : s.vm.findClass RX6 = some m.cls := hown
  have hi_6 : ∀ w ∈ wsX60, w ∈ wsX6_net := by decide +kernel
  have hf_10 := hts (.fieldLink RX6 10 "FireNets" "theNet" "LFireNets$Net;") (by decide +kernel)
  have hf_23 := hts (.fieldLink RX6 23 "FireNets" "thePlan" "[I") (by decide +kernel)
  have hS : va_S A s.heap s.heap [] := va_S.rf
  have hl : lv_has ls 2 [(0, .ref fn), (1, .int v)] := hl
  have hP : va_P D vwCl [(fn, .inr (6, [.ref nt, .ref pu, .ref al, .ref co, .ref se, .ref ch, .ref bo, .int bd])), (nt, .inr (3, [.int (nI nn), .int (nI mm), .ref aw, .ref ap, .ref an, .ref ae])), (aw, .inl (cI, 10, .inl wo)), (ap, .inl (cI, 10, .inl pr)), (an, .inl (cI, 10, .inl ne)), (al, .inl (cI, 8, .inl pl))] s.heap := hP
  refine lv_iload_n hx hb dX6_net_0 rfl (lv_at hl 1 rfl) ?_
  refine lv_iconst (v := 1) hx hb dX6_net_1 (by decide) ?_
  refine lv_bipush (v := 10) hx hb dX6_net_2 (by decide) ?_
  refine goRI hP hS (va_runS (As := [.int v, .int 1, .int 10]) (rest := []) ⟨hx, hb, hml, hown, hts⟩ (kX6_within l D cI cJ v 1 10) (va_cwS 3 hts gX6_net_X6_within rfl rfl rfl kdX6_within.2 ⟨Nat.le_of_ble_eq_true rfl, Nat.le_of_ble_eq_true rfl⟩) (preR hK hN hP [] rfl) rfl rfl hl.1 rfl (lv_room (Nat.le_of_ble_eq_true rfl)) dX6_net_4 ⟨Nat.zero_le _, Nat.zero_le _⟩) (fun H locs hP hS => ?_)
  refine r_zne (tgt := 14) hx hb dX6_net_7 (by decide) (fun c_7 => ?_) (fun c_7 => ?_)
  · obtain ⟨vq, hvq, rfl⟩ := (net_ix c_7)
    refine lv_aload_n hx hb dX6_net_14 rfl (lv_at hl 0 rfl) ?_
    refine va_get (D := D) (ci := 6) (v := .ref nt) (C := RX6) (T := TX6) (N := 8) hx hb hts hi_6 hown hK hP 0 rfl rfl 0 (by decide) hf_10 (fun _ h9 => h9) rfl dX6_net_15 ?_
    refine lv_iload_n hx hb dX6_net_18 rfl (lv_at hl 1 rfl) ?_
    refine goMV hP hD hS (va_runV (As := [.int (nI vq)]) (rest := []) ⟨hx, hb, hml, hown, hts⟩ (kX3_renew l D cI cJ nt nn mm aw ap an ae wo pr ne vq) (cwV 1 hts gX6_net_X3_renew rfl rfl rfl kdX3_renew ⟨Nat.le_of_ble_eq_true rfl, Nat.le_of_ble_eq_true rfl⟩) (preMV hK hN hP hD 1 (ci := 3) rfl rfl rfl [1, 2, 3, 4] rfl (by decide)) rfl rfl hl.1 rfl (lv_room (Nat.le_of_ble_eq_true rfl)) dX6_net_19 ⟨Nat.zero_le _, Nat.zero_le _⟩) [1, 2, 3, 4] rfl (by decide) (fun _ => (show ([nt, aw, ap, an] : List Nat) = [nt, aw, ap, an] from rfl)) (fun _ H locs hp_19 hP hD hS => ?_)
    have hP : va_P D vwCl [(fn, .inr (6, [.ref nt, .ref pu, .ref al, .ref co, .ref se, .ref ch, .ref bo, .int bd])), (nt, .inr (3, [.int (nI vq), .int (nI 0), .ref aw, .ref ap, .ref an, .ref ae])), (aw, .inl (cI, 10, .inl (fillF wo 1 10))), (ap, .inl (cI, 10, .inl (fillF pr 1 10))), (an, .inl (cI, 10, .inl (fillF ne 0 10))), (al, .inl (cI, 8, .inl pl))] H := hP
    have hD : va_D A [(fn, .inr (6, [.ref nt, .ref pu, .ref al, .ref co, .ref se, .ref ch, .ref bo, .int bd])), (nt, .inr (3, [.int (nI vq), .int (nI 0), .ref aw, .ref ap, .ref an, .ref ae])), (aw, .inl (cI, 10, .inl (fillF wo 1 10))), (ap, .inl (cI, 10, .inl (fillF pr 1 10))), (an, .inl (cI, 10, .inl (fillF ne 0 10))), (al, .inl (cI, 8, .inl pl))] := hD
    refine lv_aload_n hx hb dX6_net_22 rfl (lv_at hl 0 rfl) ?_
    refine va_get (D := D) (ci := 6) (v := .ref al) (C := RX6) (T := TX6) (N := 8) hx hb hts hi_6 hown hK hP 0 rfl rfl 2 (by decide) hf_23 (fun _ h9 => h9) rfl dX6_net_23 ?_
    refine lv_iconst (v := 0) hx hb dX6_net_26 (by decide) ?_
    refine goMV hP hD hS (va_runS (As := [.ref al, .int 0]) (rest := []) ⟨hx, hb, hml, hown, hts⟩ (kJ7_fill_53178 l D cI cJ al 8 pl 0 (by omega)) (va_cwS 2 hts gX6_net_J7_fill_53178 rfl rfl rfl kdJ7_fill_53178.2 ⟨Nat.le_of_ble_eq_true rfl, Nat.le_of_ble_eq_true rfl⟩) (preM hK hN hP hD [5] rfl (by decide)) rfl rfl hl.1 rfl (lv_room (Nat.le_of_ble_eq_true rfl)) dX6_net_27 ⟨Nat.zero_le _, Nat.zero_le _⟩) [5] rfl (by decide) (fun _ => (show ([al] : List Nat) = [al] from rfl)) (fun _ H locs hp_27 hP hD hS => ?_)
    have hP : va_P D vwCl [(fn, .inr (6, [.ref nt, .ref pu, .ref al, .ref co, .ref se, .ref ch, .ref bo, .int bd])), (nt, .inr (3, [.int (nI vq), .int (nI 0), .ref aw, .ref ap, .ref an, .ref ae])), (aw, .inl (cI, 10, .inl (fillF wo 1 10))), (ap, .inl (cI, 10, .inl (fillF pr 1 10))), (an, .inl (cI, 10, .inl (fillF ne 0 10))), (al, .inl (cI, 8, .inl (fillF pl 0 8)))] H := hP
    have hD : va_D A [(fn, .inr (6, [.ref nt, .ref pu, .ref al, .ref co, .ref se, .ref ch, .ref bo, .int bd])), (nt, .inr (3, [.int (nI vq), .int (nI 0), .ref aw, .ref ap, .ref an, .ref ae])), (aw, .inl (cI, 10, .inl (fillF wo 1 10))), (ap, .inl (cI, 10, .inl (fillF pr 1 10))), (an, .inl (cI, 10, .inl (fillF ne 0 10))), (al, .inl (cI, 8, .inl (fillF pl 0 8)))] := hD
    refine lv_iconst (v := 1) hx hb dX6_net_30 (by decide) ?_
    exact endMI () hx hb hr hlocks hA hQ hS hP dX6_net_31 (by simp only [if_pos c_7, nI_clamp (show vq < 2 ^ 31 by omega)]) (if_pos c_7).symm
  · refine lv_sipush (v := (-1002)) hx hb dX6_net_10 (by decide) ?_
    exact endMI () hx hb hr hlocks hA hQ hS hP dX6_net_13 (by simp only [if_neg c_7]) (if_neg c_7).symm
def rmX3_join : Room := { frames := 2, cells := 0, slots := 0, locals := 43 }
theorem kdX3_join : yX3_join.cls = RX3 ∧ yX3_join.cls ≠ "java/lang/invoke/MethodHandle" ∧ yX3_join.cls ≠ "java/lang/invoke/VarHandle" ∧ (parseMethodDescriptor yX3_join.desc).map (fun d => d.parameters.length) = some 2 := ⟨rfl, by decide +kernel, by decide +kernel, by decide +kernel⟩
set_option maxRecDepth 100000 in
set_option maxHeartbeats 1000000 in
theorem kX3_join (l : Launch) (D : va_G) (cI cJ : ClassId) (nt : Nat) (nn : Nat) (mm : Nat) (aw : Nat) (ap : Nat) (an : Nat) (ae : Nat) (ne : Row) (en : Row) (a b : Nat) (hav : a < nn) (hbv : b < nn) (hn10 : nn ≤ 10) (hm : mm < 24) : Met l yX3_join wsX3_join rmX3_join (mPre D cI cJ [.ref nt, .int (nI a), .int (nI b)] [(nt, .inr (3, [.int (nI nn), .int (nI mm), .ref aw, .ref ap, .ref an, .ref ae])), (an, .inl (cI, 10, .inl ne)), (ae, .inl (cI, 24, .inl en))]) (mQi D (fun (r : Int32) (_ : Unit) => r = (nI mm)) (fun (_ : Unit) => [(nt, .inr (3, [.int (nI nn), .int (nI (mm + 1)), .ref aw, .ref ap, .ref an, .ref ae])), (an, .inl (cI, 10, .inl (upd (upd ne a (ne a ||| (1 <<< (nI b &&& 31)))) b (upd ne a (ne a ||| (1 <<< (nI b &&& 31))) b ||| (1 <<< (nI a &&& 31)))))), (ae, .inl (cI, 24, .inl (upd en mm ((1 <<< (nI a &&& 31)) ||| (1 <<< (nI b &&& 31))))))]) [(nt, .inr (3, [.int (nI nn), .int (nI mm), .ref aw, .ref ap, .ref an, .ref ae])), (an, .inl (cI, 10, .inl ne)), (ae, .inl (cI, 24, .inl en))]) 0 0 (mA [(nt, .inr (3, [.int (nI nn), .int (nI mm), .ref aw, .ref ap, .ref an, .ref ae])), (an, .inl (cI, 10, .inl ne)), (ae, .inl (cI, 24, .inl en))]) := by
  refine startM (cc := cX3_join) (maxL := 3) (ret := (some .int)) (by decide) rfl (Nat.le_of_ble_eq_true rfl) ?_
  intro p e s m args below meth c ls Q A hA hQ hx hb hr hlocks hml hown hts hK hN hP hD hl hin
  have hown : s.vm.findClass RX3 = some m.cls := hown
  have hi_3 : ∀ w ∈ wsX30, w ∈ wsX3_join := by decide +kernel
  have hf_18 := hts (.fieldLink RX3 18 "FireNets$Net" "near" "[I") (by decide +kernel)
  have hf_21 := hts (.fieldLink RX3 21 "FireNets$Net" "ends" "[I") (by decide +kernel)
  have hf_32 := hts (.fieldLink RX3 32 "FireNets$Net" "lines" "I") (by decide +kernel)
  have hS : va_S A s.heap s.heap [] := va_S.rf
  have hl : lv_has ls 3 [(0, .ref nt), (1, .int (nI a)), (2, .int (nI b))] := hl
  have hP : va_P D vwCl [(nt, .inr (3, [.int (nI nn), .int (nI mm), .ref aw, .ref ap, .ref an, .ref ae])), (an, .inl (cI, 10, .inl ne)), (ae, .inl (cI, 24, .inl en))] s.heap := hP
  refine lv_aload_n hx hb dX3_join_0 rfl (lv_at hl 0 rfl) ?_
  refine va_get (D := D) (ci := 3) (v := .int (nI mm)) (C := RX3) (T := TX3) (N := 6) hx hb hts hi_3 hown hK hP 0 rfl rfl 1 (by decide) hf_32 (fun _ h9 => h9) rfl dX3_join_1 ?_
  refine lv_bipush (v := 24) hx hb dX3_join_4 (by decide) ?_
  refine r_icmp_ge (tgt := 25) hx hb mm 24 dX3_join_6 (by decide) rfl rfl (by omega) (by omega) (fun c_6 => ?_) (fun c_6 => ?_)
  · exact absurd c_6 (by omega)
  · refine lv_aload_n hx hb dX3_join_9 rfl (lv_at hl 0 rfl) ?_
    refine lv_iload_n hx hb dX3_join_10 rfl (lv_at hl 1 rfl) ?_
    refine goRI hP hS (va_runV (As := [.int (nI a)]) (rest := []) ⟨hx, hb, hml, hown, hts⟩ (kX3_has l D cI cJ nt aw ap an ae nn mm (nI a)) (cwV 1 hts gX3_join_X3_has rfl rfl rfl kdX3_has ⟨Nat.le_of_ble_eq_true rfl, Nat.le_of_ble_eq_true rfl⟩) (preRV hK hN hP 0 (ci := 3) rfl rfl rfl [0] rfl) rfl rfl hl.1 rfl (lv_room (Nat.le_of_ble_eq_true rfl)) dX3_join_11 ⟨Nat.zero_le _, Nat.zero_le _⟩) (fun H locs hP hS => ?_)
    refine r_zeq (tgt := 25) hx hb dX3_join_14 (by decide) (fun c_14 => ?_) (fun c_14 => ?_)
    · exact absurd (i_has hav hn10) c_14
    · refine lv_aload_n hx hb dX3_join_17 rfl (lv_at hl 0 rfl) ?_
      refine lv_iload_n hx hb dX3_join_18 rfl (lv_at hl 2 rfl) ?_
      refine goRI hP hS (va_runV (As := [.int (nI b)]) (rest := []) ⟨hx, hb, hml, hown, hts⟩ (kX3_has l D cI cJ nt aw ap an ae nn mm (nI b)) (cwV 1 hts gX3_join_X3_has rfl rfl rfl kdX3_has ⟨Nat.le_of_ble_eq_true rfl, Nat.le_of_ble_eq_true rfl⟩) (preRV hK hN hP 0 (ci := 3) rfl rfl rfl [0] rfl) rfl rfl hl.1 rfl (lv_room (Nat.le_of_ble_eq_true rfl)) dX3_join_19 ⟨Nat.zero_le _, Nat.zero_le _⟩) (fun H locs hP hS => ?_)
      refine r_zne (tgt := 27) hx hb dX3_join_22 (by decide) (fun c_22 => ?_) (fun c_22 => ?_)
      · refine lv_aload_n hx hb dX3_join_27 rfl (lv_at hl 0 rfl) ?_
        refine va_get (D := D) (ci := 3) (v := .ref an) (C := RX3) (T := TX3) (N := 6) hx hb hts hi_3 hown hK hP 0 rfl rfl 4 (by decide) hf_18 (fun _ h9 => h9) rfl dX3_join_28 ?_
        refine lv_iload_n hx hb dX3_join_31 rfl (lv_at hl 1 rfl) ?_
        refine lv_dup2_11 hx hb dX3_join_32 rfl rfl ?_
        refine r_iald hx hb hK hP 1 rfl a rfl (by omega) (by omega) dX3_join_33 ?_
        refine lv_iconst (v := 1) hx hb dX3_join_34 (by decide) ?_
        refine lv_iload_n hx hb dX3_join_35 rfl (lv_at hl 2 rfl) ?_
        refine lv_ishl hx hb dX3_join_36 ?_
        refine lv_ior hx hb dX3_join_37 ?_
        refine r_iast hx hb hK hP hD hS 1 rfl a rfl (by omega) (by omega) dX3_join_38 (fun H locs hP hD hS => ?_)
        have hP : va_P D vwCl [(nt, .inr (3, [.int (nI nn), .int (nI mm), .ref aw, .ref ap, .ref an, .ref ae])), (an, .inl (cI, 10, .inl (upd ne a ((ne a) ||| (1 <<< ((nI b) &&& 31)))))), (ae, .inl (cI, 24, .inl en))] H := hP
        have hD : va_D A [(nt, .inr (3, [.int (nI nn), .int (nI mm), .ref aw, .ref ap, .ref an, .ref ae])), (an, .inl (cI, 10, .inl (upd ne a ((ne a) ||| (1 <<< ((nI b) &&& 31)))))), (ae, .inl (cI, 24, .inl en))] := hD
        refine lv_aload_n hx hb dX3_join_39 rfl (lv_at hl 0 rfl) ?_
        refine va_get (D := D) (ci := 3) (v := .ref an) (C := RX3) (T := TX3) (N := 6) hx hb hts hi_3 hown hK hP 0 rfl rfl 4 (by decide) hf_18 (fun _ h9 => h9) rfl dX3_join_40 ?_
        refine lv_iload_n hx hb dX3_join_43 rfl (lv_at hl 2 rfl) ?_
        refine lv_dup2_11 hx hb dX3_join_44 rfl rfl ?_
        refine r_iald hx hb hK hP 1 rfl b rfl (by omega) (by omega) dX3_join_45 ?_
        refine lv_iconst (v := 1) hx hb dX3_join_46 (by decide) ?_
        refine lv_iload_n hx hb dX3_join_47 rfl (lv_at hl 1 rfl) ?_
        refine lv_ishl hx hb dX3_join_48 ?_
        refine lv_ior hx hb dX3_join_49 ?_
        refine r_iast hx hb hK hP hD hS 1 rfl b rfl (by omega) (by omega) dX3_join_50 (fun H locs hP hD hS => ?_)
        have hP : va_P D vwCl [(nt, .inr (3, [.int (nI nn), .int (nI mm), .ref aw, .ref ap, .ref an, .ref ae])), (an, .inl (cI, 10, .inl (upd (upd ne a ((ne a) ||| (1 <<< ((nI b) &&& 31)))) b (((upd ne a ((ne a) ||| (1 <<< ((nI b) &&& 31)))) b) ||| (1 <<< ((nI a) &&& 31)))))), (ae, .inl (cI, 24, .inl en))] H := hP
        have hD : va_D A [(nt, .inr (3, [.int (nI nn), .int (nI mm), .ref aw, .ref ap, .ref an, .ref ae])), (an, .inl (cI, 10, .inl (upd (upd ne a ((ne a) ||| (1 <<< ((nI b) &&& 31)))) b (((upd ne a ((ne a) ||| (1 <<< ((nI b) &&& 31)))) b) ||| (1 <<< ((nI a) &&& 31)))))), (ae, .inl (cI, 24, .inl en))] := hD
        refine lv_aload_n hx hb dX3_join_51 rfl (lv_at hl 0 rfl) ?_
        refine va_get (D := D) (ci := 3) (v := .ref ae) (C := RX3) (T := TX3) (N := 6) hx hb hts hi_3 hown hK hP 0 rfl rfl 5 (by decide) hf_21 (fun _ h9 => h9) rfl dX3_join_52 ?_
        refine lv_aload_n hx hb dX3_join_55 rfl (lv_at hl 0 rfl) ?_
        refine va_get (D := D) (ci := 3) (v := .int (nI mm)) (C := RX3) (T := TX3) (N := 6) hx hb hts hi_3 hown hK hP 0 rfl rfl 1 (by decide) hf_32 (fun _ h9 => h9) rfl dX3_join_56 ?_
        refine lv_iconst (v := 1) hx hb dX3_join_59 (by decide) ?_
        refine lv_iload_n hx hb dX3_join_60 rfl (lv_at hl 1 rfl) ?_
        refine lv_ishl hx hb dX3_join_61 ?_
        refine lv_iconst (v := 1) hx hb dX3_join_62 (by decide) ?_
        refine lv_iload_n hx hb dX3_join_63 rfl (lv_at hl 2 rfl) ?_
        refine lv_ishl hx hb dX3_join_64 ?_
        refine lv_ior hx hb dX3_join_65 ?_
        refine r_iast hx hb hK hP hD hS 2 rfl mm rfl (by omega) (by omega) dX3_join_66 (fun H locs hP hD hS => ?_)
        have hP : va_P D vwCl [(nt, .inr (3, [.int (nI nn), .int (nI mm), .ref aw, .ref ap, .ref an, .ref ae])), (an, .inl (cI, 10, .inl (upd (upd ne a ((ne a) ||| (1 <<< ((nI b) &&& 31)))) b (((upd ne a ((ne a) ||| (1 <<< ((nI b) &&& 31)))) b) ||| (1 <<< ((nI a) &&& 31)))))), (ae, .inl (cI, 24, .inl (upd en mm ((1 <<< ((nI a) &&& 31)) ||| (1 <<< ((nI b) &&& 31))))))] H := hP
        have hD : va_D A [(nt, .inr (3, [.int (nI nn), .int (nI mm), .ref aw, .ref ap, .ref an, .ref ae])), (an, .inl (cI, 10, .inl (upd (upd ne a ((ne a) ||| (1 <<< ((nI b) &&& 31)))) b (((upd ne a ((ne a) ||| (1 <<< ((nI b) &&& 31)))) b) ||| (1 <<< ((nI a) &&& 31)))))), (ae, .inl (cI, 24, .inl (upd en mm ((1 <<< ((nI a) &&& 31)) ||| (1 <<< ((nI b) &&& 31))))))] := hD
        refine lv_aload_n hx hb dX3_join_67 rfl (lv_at hl 0 rfl) ?_
        refine lv_dup hx hb dX3_join_68 rfl ?_
        refine va_get (D := D) (ci := 3) (v := .int (nI mm)) (C := RX3) (T := TX3) (N := 6) hx hb hts hi_3 hown hK hP 0 rfl rfl 1 (by decide) hf_32 (fun _ h9 => h9) rfl dX3_join_69 ?_
        refine lv_iconst (v := 1) hx hb dX3_join_72 (by decide) ?_
        refine lv_iadd hx hb dX3_join_73 ?_
        refine r_top (x' := nI (mm + 1)) (nI_add mm 1) ?_
        refine va_put (D := D) (ci := 3) (v := .int (nI (mm + 1))) (ty := .int) (C := RX3) (T := TX3) (N := 6) hx hb hts hi_3 tyX3 tyX3_ok nmX3 hown hK hP hD hS 0 rfl rfl 1 (by decide) hf_32 (fun _ h9 => h9) rfl (by decide +kernel) rfl rfl (Nat.le_of_ble_eq_true rfl) dX3_join_74 (fun H locs hP hD hS => ?_)
        have hP : va_P D vwCl [(nt, .inr (3, [.int (nI nn), .int (nI (mm + 1)), .ref aw, .ref ap, .ref an, .ref ae])), (an, .inl (cI, 10, .inl (upd (upd ne a ((ne a) ||| (1 <<< ((nI b) &&& 31)))) b (((upd ne a ((ne a) ||| (1 <<< ((nI b) &&& 31)))) b) ||| (1 <<< ((nI a) &&& 31)))))), (ae, .inl (cI, 24, .inl (upd en mm ((1 <<< ((nI a) &&& 31)) ||| (1 <<< ((nI b) &&& 31))))))] H := hP
        have hD : va_D A [(nt, .inr (3, [.int (nI nn), .int (nI (mm + 1)), .ref aw, .ref ap, .ref an, .ref ae])), (an, .inl (cI, 10, .inl (upd (upd ne a ((ne a) ||| (1 <<< ((nI b) &&& 31)))) b (((upd ne a ((ne a) ||| (1 <<< ((nI b) &&& 31)))) b) ||| (1 <<< ((nI a) &&& 31)))))), (ae, .inl (cI, 24, .inl (upd en mm ((1 <<< ((nI a) &&& 31)) ||| (1 <<< ((nI b) &&& 31))))))] := hD
        refine lv_aload_n hx hb dX3_join_77 rfl (lv_at hl 0 rfl) ?_
        refine va_get (D := D) (ci := 3) (v := .int (nI (mm + 1))) (C := RX3) (T := TX3) (N := 6) hx hb hts hi_3 hown hK hP 0 rfl rfl 1 (by decide) hf_32 (fun _ h9 => h9) rfl dX3_join_78 ?_
        refine lv_iconst (v := 1) hx hb dX3_join_81 (by decide) ?_
        refine lv_isub hx hb dX3_join_82 ?_
        refine r_top (x' := nI ((mm + 1) - 1)) (pk_sub (a := mm + 1) (b := 1) (by omega)) ?_
        exact endMI () hx hb hr hlocks hA hQ hS hP dX3_join_83 rfl rfl
      · exact absurd (i_has hbv hn10) c_22
def rmX6_line : Room := { frames := 3, cells := 0, slots := 0, locals := 65 }
theorem kdX6_line : yX6_line.cls = RX6 ∧ yX6_line.cls ≠ "java/lang/invoke/MethodHandle" ∧ yX6_line.cls ≠ "java/lang/invoke/VarHandle" ∧ (parseMethodDescriptor yX6_line.desc).map (fun d => d.parameters.length) = some 2 := ⟨rfl, by decide +kernel, by decide +kernel, by decide +kernel⟩
set_option maxRecDepth 100000 in
set_option maxHeartbeats 1000000 in
theorem kX6_line (l : Launch) (D : va_G) (cI cJ : ClassId) (fn : Nat) (nt : Nat) (pu : Nat) (al : Nat) (co : Nat) (se : Nat) (ch : Nat) (bo : Nat) (bd : Int32) (nn : Nat) (mm : Nat) (aw : Nat) (ap : Nat) (an : Nat) (ae : Nat) (ne : Row) (en : Row) (a b : Int32) (hn1 : 1 ≤ nn) (hn10 : nn ≤ 10) (hm : mm ≤ 24) : Met l yX6_line wsX6_line rmX6_line (mPre D cI cJ [.ref fn, .int a, .int b] [(fn, .inr (6, [.ref nt, .ref pu, .ref al, .ref co, .ref se, .ref ch, .ref bo, .int bd])), (nt, .inr (3, [.int (nI nn), .int (nI mm), .ref aw, .ref ap, .ref an, .ref ae])), (an, .inl (cI, 10, .inl ne)), (ae, .inl (cI, 24, .inl en))]) (mQi D (fun (r : Int32) (_ : Unit) => r = (lineO nn mm ne a b)) (fun (_ : Unit) => [(fn, .inr (6, [.ref nt, .ref pu, .ref al, .ref co, .ref se, .ref ch, .ref bo, .int bd])), (nt, .inr (3, [.int (nI nn), .int (nI (if linkO nn mm ne a b = true then mm + 1 else mm)), .ref aw, .ref ap, .ref an, .ref ae])), (an, .inl (cI, 10, .inl (if linkO nn mm ne a b = true then upd (upd ne a.toNatClampNeg (ne a.toNatClampNeg ||| (1 <<< (b &&& 31)))) b.toNatClampNeg (upd ne a.toNatClampNeg (ne a.toNatClampNeg ||| (1 <<< (b &&& 31))) b.toNatClampNeg ||| (1 <<< (a &&& 31))) else ne))), (ae, .inl (cI, 24, .inl (if linkO nn mm ne a b = true then upd en mm ((1 <<< (a &&& 31)) ||| (1 <<< (b &&& 31))) else en)))]) [(fn, .inr (6, [.ref nt, .ref pu, .ref al, .ref co, .ref se, .ref ch, .ref bo, .int bd])), (nt, .inr (3, [.int (nI nn), .int (nI mm), .ref aw, .ref ap, .ref an, .ref ae])), (an, .inl (cI, 10, .inl ne)), (ae, .inl (cI, 24, .inl en))]) 0 0 (mA [(fn, .inr (6, [.ref nt, .ref pu, .ref al, .ref co, .ref se, .ref ch, .ref bo, .int bd])), (nt, .inr (3, [.int (nI nn), .int (nI mm), .ref aw, .ref ap, .ref an, .ref ae])), (an, .inl (cI, 10, .inl ne)), (ae, .inl (cI, 24, .inl en))]) := by
  refine startM (cc := cX6_line) (maxL := 3) (ret := (some .int)) (by decide) rfl (Nat.le_of_ble_eq_true rfl) ?_
  intro p e s m args below meth c ls Q A hA hQ hx hb hr hlocks hml hown hts hK hN hP hD hl hin
  have hown : s.vm.findClass RX6 = some m.cls := hown
  have hi_3 : ∀ w ∈ wsX30, w ∈ wsX6_line := by decide +kernel
  have hi_6 : ∀ w ∈ wsX60, w ∈ wsX6_line := by decide +kernel
  have hf_10 := hts (.fieldLink RX6 10 "FireNets" "theNet" "LFireNets$Net;") (by decide +kernel)
  have hf_81 := hts (.fieldLink RX6 81 "FireNets$Net" "lines" "I") (by decide +kernel)
  have hS : va_S A s.heap s.heap [] := va_S.rf
  have hl : lv_has ls 3 [(0, .ref fn), (1, .int a), (2, .int b)] := hl
  have hP : va_P D vwCl [(fn, .inr (6, [.ref nt, .ref pu, .ref al, .ref co, .ref se, .ref ch, .ref bo, .int bd])), (nt, .inr (3, [.int (nI nn), .int (nI mm), .ref aw, .ref ap, .ref an, .ref ae])), (an, .inl (cI, 10, .inl ne)), (ae, .inl (cI, 24, .inl en))] s.heap := hP
  refine lv_aload_n hx hb dX6_line_0 rfl (lv_at hl 0 rfl) ?_
  refine va_get (D := D) (ci := 6) (v := .ref nt) (C := RX6) (T := TX6) (N := 8) hx hb hts hi_6 hown hK hP 0 rfl rfl 0 (by decide) hf_10 (fun _ h9 => h9) rfl dX6_line_1 ?_
  refine lv_iload_n hx hb dX6_line_4 rfl (lv_at hl 1 rfl) ?_
  refine goRI hP hS (va_runV (As := [.int a]) (rest := []) ⟨hx, hb, hml, hown, hts⟩ (kX3_has l D cI cJ nt aw ap an ae nn mm a) (cwV 1 hts gX6_line_X3_has rfl rfl rfl kdX3_has ⟨Nat.le_of_ble_eq_true rfl, Nat.le_of_ble_eq_true rfl⟩) (preRV hK hN hP 1 (ci := 3) rfl rfl rfl [1] rfl) rfl rfl hl.1 rfl (lv_room (Nat.le_of_ble_eq_true rfl)) dX6_line_5 ⟨Nat.zero_le _, Nat.zero_le _⟩) (fun H locs hP hS => ?_)
  refine r_zeq (tgt := 22) hx hb dX6_line_8 (by decide) (fun c_8 => ?_) (fun c_8 => ?_)
  · refine lv_sipush (v := (-1001)) hx hb dX6_line_22 (by decide) ?_
    exact endMI () hx hb hr hlocks hA hQ hS hP dX6_line_25 (by have hL : ¬ (linkO nn mm ne a b = true) := fun h => (fun h => c_8 h.1) (of_decide_eq_true h).1; simp only [if_neg hL]) (by rw [lineO, if_neg (fun h => c_8 h.1)])
  · refine lv_aload_n hx hb dX6_line_11 rfl (lv_at hl 0 rfl) ?_
    refine va_get (D := D) (ci := 6) (v := .ref nt) (C := RX6) (T := TX6) (N := 8) hx hb hts hi_6 hown hK hP 0 rfl rfl 0 (by decide) hf_10 (fun _ h9 => h9) rfl dX6_line_12 ?_
    refine lv_iload_n hx hb dX6_line_15 rfl (lv_at hl 2 rfl) ?_
    refine goRI hP hS (va_runV (As := [.int b]) (rest := []) ⟨hx, hb, hml, hown, hts⟩ (kX3_has l D cI cJ nt aw ap an ae nn mm b) (cwV 1 hts gX6_line_X3_has rfl rfl rfl kdX3_has ⟨Nat.le_of_ble_eq_true rfl, Nat.le_of_ble_eq_true rfl⟩) (preRV hK hN hP 1 (ci := 3) rfl rfl rfl [1] rfl) rfl rfl hl.1 rfl (lv_room (Nat.le_of_ble_eq_true rfl)) dX6_line_16 ⟨Nat.zero_le _, Nat.zero_le _⟩) (fun H locs hP hS => ?_)
    refine r_zne (tgt := 26) hx hb dX6_line_19 (by decide) (fun c_19 => ?_) (fun c_19 => ?_)
    · obtain ⟨aq, haq, rfl⟩ := (i_hasE hn10 hn1 c_8)
      obtain ⟨bq, hbq, rfl⟩ := (i_hasE hn10 hn1 c_19)
      have ea := nI_clamp (show aq < 2 ^ 31 by omega)
      have eb := nI_clamp (show bq < 2 ^ 31 by omega)
      refine lv_iload_n hx hb dX6_line_26 rfl (lv_at hl 1 rfl) ?_
      refine lv_iload_n hx hb dX6_line_27 rfl (lv_at hl 2 rfl) ?_
      refine lv_icmp_ne (tgt := 35) hx hb dX6_line_28 (by decide) (fun c_28 => ?_) (fun c_28 => ?_)
      · refine lv_aload_n hx hb dX6_line_35 rfl (lv_at hl 0 rfl) ?_
        refine va_get (D := D) (ci := 6) (v := .ref nt) (C := RX6) (T := TX6) (N := 8) hx hb hts hi_6 hown hK hP 0 rfl rfl 0 (by decide) hf_10 (fun _ h9 => h9) rfl dX6_line_36 ?_
        refine lv_iload_n hx hb dX6_line_39 rfl (lv_at hl 1 rfl) ?_
        refine lv_iload_n hx hb dX6_line_40 rfl (lv_at hl 2 rfl) ?_
        refine goRI hP hS (va_runV (As := [.int (nI aq), .int (nI bq)]) (rest := []) ⟨hx, hb, hml, hown, hts⟩ (kX3_joined l D cI cJ nt aw ap an ae nn mm ne aq (nI bq) (by omega)) (cwV 2 hts gX6_line_X3_joined rfl rfl rfl kdX3_joined ⟨Nat.le_of_ble_eq_true rfl, Nat.le_of_ble_eq_true rfl⟩) (preRV hK hN hP 1 (ci := 3) rfl rfl rfl [1, 2] rfl) rfl rfl hl.1 rfl (lv_room (Nat.le_of_ble_eq_true rfl)) dX6_line_41 ⟨Nat.zero_le _, Nat.zero_le _⟩) (fun H locs hP hS => ?_)
        refine r_zeq (tgt := 51) hx hb dX6_line_44 (by decide) (fun c_44 => ?_) (fun c_44 => ?_)
        · refine lv_aload_n hx hb dX6_line_51 rfl (lv_at hl 0 rfl) ?_
          refine va_get (D := D) (ci := 6) (v := .ref nt) (C := RX6) (T := TX6) (N := 8) hx hb hts hi_6 hown hK hP 0 rfl rfl 0 (by decide) hf_10 (fun _ h9 => h9) rfl dX6_line_52 ?_
          refine va_get (D := D) (ci := 3) (v := .int (nI mm)) (C := RX3) (T := TX3) (N := 6) hx hb hts hi_3 hown hK hP 1 rfl rfl 1 (by decide) hf_81 (fun _ h9 => h9) rfl dX6_line_55 ?_
          refine lv_bipush (v := 24) hx hb dX6_line_58 (by decide) ?_
          refine r_icmp_lt (tgt := 67) hx hb mm 24 dX6_line_60 (by decide) rfl rfl (by omega) (by omega) (fun c_60 => ?_) (fun c_60 => ?_)
          · refine lv_aload_n hx hb dX6_line_67 rfl (lv_at hl 0 rfl) ?_
            refine va_get (D := D) (ci := 6) (v := .ref nt) (C := RX6) (T := TX6) (N := 8) hx hb hts hi_6 hown hK hP 0 rfl rfl 0 (by decide) hf_10 (fun _ h9 => h9) rfl dX6_line_68 ?_
            refine lv_iload_n hx hb dX6_line_71 rfl (lv_at hl 1 rfl) ?_
            refine lv_iload_n hx hb dX6_line_72 rfl (lv_at hl 2 rfl) ?_
            refine goMI hP hD hS (va_runV (As := [.int (nI aq), .int (nI bq)]) (rest := []) ⟨hx, hb, hml, hown, hts⟩ (kX3_join l D cI cJ nt nn mm aw ap an ae ne en aq bq (by omega) (by omega) (by omega) (by omega)) (cwV 2 hts gX6_line_X3_join rfl rfl rfl kdX3_join ⟨Nat.le_of_ble_eq_true rfl, Nat.le_of_ble_eq_true rfl⟩) (preMV hK hN hP hD 1 (ci := 3) rfl rfl rfl [1, 2, 3] rfl (by decide)) rfl rfl hl.1 rfl (lv_room (Nat.le_of_ble_eq_true rfl)) dX6_line_73 ⟨Nat.zero_le _, Nat.zero_le _⟩) [1, 2, 3] rfl (by decide) (fun _ => (show ([nt, an, ae] : List Nat) = [nt, an, ae] from rfl)) (fun r_73 _ H locs hp_73 hP hD hS => ?_)
            have hP : va_P D vwCl [(fn, .inr (6, [.ref nt, .ref pu, .ref al, .ref co, .ref se, .ref ch, .ref bo, .int bd])), (nt, .inr (3, [.int (nI nn), .int (nI (mm + 1)), .ref aw, .ref ap, .ref an, .ref ae])), (an, .inl (cI, 10, .inl (upd (upd ne aq (ne aq ||| (1 <<< (nI bq &&& 31)))) bq (upd ne aq (ne aq ||| (1 <<< (nI bq &&& 31))) bq ||| (1 <<< (nI aq &&& 31)))))), (ae, .inl (cI, 24, .inl (upd en mm ((1 <<< (nI aq &&& 31)) ||| (1 <<< (nI bq &&& 31))))))] H := hP
            have hD : va_D A [(fn, .inr (6, [.ref nt, .ref pu, .ref al, .ref co, .ref se, .ref ch, .ref bo, .int bd])), (nt, .inr (3, [.int (nI nn), .int (nI (mm + 1)), .ref aw, .ref ap, .ref an, .ref ae])), (an, .inl (cI, 10, .inl (upd (upd ne aq (ne aq ||| (1 <<< (nI bq &&& 31)))) bq (upd ne aq (ne aq ||| (1 <<< (nI bq &&& 31))) bq ||| (1 <<< (nI aq &&& 31)))))), (ae, .inl (cI, 24, .inl (upd en mm ((1 <<< (nI aq &&& 31)) ||| (1 <<< (nI bq &&& 31))))))] := hD
            obtain rfl := hp_73
            exact endMI () hx hb hr hlocks hA hQ hS hP dX6_line_76 (by have hL : linkO nn mm ne (nI aq) (nI bq) = true := decide_eq_true ⟨⟨c_8, c_19⟩, c_28, by rw [ea]; exact Decidable.byContradiction c_44, c_60⟩; simp only [if_pos hL, ea, eb]) (by rw [lineO, if_pos ⟨c_8, c_19⟩, if_neg c_28, ea, if_neg c_44, if_pos c_60])
          · refine lv_sipush (v := (-1004)) hx hb dX6_line_63 (by decide) ?_
            exact endMI () hx hb hr hlocks hA hQ hS hP dX6_line_66 (by have hL : ¬ (linkO nn mm ne (nI aq) (nI bq) = true) := fun h => absurd (of_decide_eq_true h).2.2.2 (by omega); simp only [if_neg hL]) (by rw [lineO, if_pos ⟨c_8, c_19⟩, if_neg c_28, ea, if_neg c_44, if_neg (by omega)])
        · refine lv_sipush (v := (-1003)) hx hb dX6_line_47 (by decide) ?_
          exact endMI () hx hb hr hlocks hA hQ hS hP dX6_line_50 (by have hL : ¬ (linkO nn mm ne (nI aq) (nI bq) = true) := fun h => c_44 (by have := (of_decide_eq_true h).2.2.1; rw [ea] at this; exact this); simp only [if_neg hL]) (by rw [lineO, if_pos ⟨c_8, c_19⟩, if_neg c_28, ea, if_pos c_44])
      · refine lv_sipush (v := (-1002)) hx hb dX6_line_31 (by decide) ?_
        exact endMI () hx hb hr hlocks hA hQ hS hP dX6_line_34 (by have hL : ¬ (linkO nn mm ne (nI aq) (nI bq) = true) := fun h => (of_decide_eq_true h).2.1 c_28; simp only [if_neg hL]) (by rw [lineO, if_pos ⟨c_8, c_19⟩, if_pos c_28])
    · refine lv_sipush (v := (-1001)) hx hb dX6_line_22 (by decide) ?_
      exact endMI () hx hb hr hlocks hA hQ hS hP dX6_line_25 (by have hL : ¬ (linkO nn mm ne a b = true) := fun h => (fun h => c_19 h.2) (of_decide_eq_true h).1; simp only [if_neg hL]) (by rw [lineO, if_neg (fun h => c_19 h.2)])

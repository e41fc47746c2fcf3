/-! chances: what burns over some of the lines, and both answers -/
theorem pass_up (en : Row) (cl op s : Int32) : ∀ l, subI s (passA en cl op s l)
  | 0 => fun i _ h => h
  | l + 1 => fun i hi h => by
    have ih := pass_up en cl op s l i hi h
    show tb (if bt op (nI l) = 1 ∧ ¬ passA en cl op s l &&& pairM en l = 0 ∧ pairM en l &&& cl = 0 then passA en cl op s l ||| pairM en l else passA en cl op s l ||| 0) i = true
    split
    · rw [tb_or, ih, Bool.true_or]
    · rw [tb_or, ih, Bool.true_or]
theorem pass_step (en : Row) (cl op s : Int32) (l : Nat) : subI (passA en cl op s l) (passA en cl op s (l + 1)) := fun i hi h => by
  show tb (if bt op (nI l) = 1 ∧ ¬ passA en cl op s l &&& pairM en l = 0 ∧ pairM en l &&& cl = 0 then passA en cl op s l ||| pairM en l else passA en cl op s l ||| 0) i = true
  split
  · rw [tb_or, h, Bool.true_or]
  · rw [tb_or, h, Bool.true_or]
theorem pass_mono (en : Row) (cl op s : Int32) (l : Nat) : ∀ j, subI (passA en cl op s l) (passA en cl op s (l + j))
  | 0 => fun i _ h => h
  | j + 1 => fun i hi h => pass_step en cl op s (l + j) i hi (pass_mono en cl op s l j i hi h)
/-- within any set that the open lines don't lead out of -/
theorem pass_in {en : Row} {cl op s z : Int32} {mm : Nat} (hmm : mm ≤ 12) (hz : shutI (pairM en) mm cl (fun l => tb op l) z) (hs : subI s z) : ∀ l, l ≤ mm → subI (passA en cl op s l) z
  | 0, _ => hs
  | l + 1, hl => fun i hi h => by
    have ih := pass_in hmm hz hs l (by omega)
    have h : tb (if bt op (nI l) = 1 ∧ ¬ passA en cl op s l &&& pairM en l = 0 ∧ pairM en l &&& cl = 0 then passA en cl op s l ||| pairM en l else passA en cl op s l ||| 0) i = true := h
    by_cases q : bt op (nI l) = 1 ∧ ¬ passA en cl op s l &&& pairM en l = 0 ∧ pairM en l &&& cl = 0
    · rw [if_pos q, tb_or] at h
      cases w : tb (passA en cl op s l) i
      · rw [w, Bool.false_or] at h
        obtain ⟨j, hj, w1, w2⟩ := and_nz.mp q.2.1
        exact hz l (by omega) ((bt_1 (by omega)).mp q.1) q.2.2 (and_nz.mpr ⟨j, hj, ih j hj w1, w2⟩) i hi h
      · exact ih i hi w
    · rw [if_neg q, Int32.or_zero] at h
      exact ih i hi h
/-- a set that one more round leaves alone is shut -/
theorem pass_fix {en : Row} {cl op s : Int32} {mm : Nat} (hmm : mm ≤ 12) (h : passA en cl op s mm = s) : shutI (pairM en) mm cl (fun l => tb op l) s := fun l hl hO hc hz i hi he => by
  have e : ∀ j, j ≤ mm → passA en cl op s j = s := fun j hj => tb_ext fun i hi => by
    cases w : tb s i
    · cases w2 : tb (passA en cl op s j) i
      · rfl
      · have := pass_mono en cl op s j (mm - j) i hi w2
        rw [show j + (mm - j) = mm by omega, h, w] at this
        cases this
    · exact pass_up en cl op s j i hi w
  have h1 := e (l + 1) (by omega)
  have h0 := e l (by omega)
  have h1 : (if bt op (nI l) = 1 ∧ ¬ passA en cl op s l &&& pairM en l = 0 ∧ pairM en l &&& cl = 0 then passA en cl op s l ||| pairM en l else passA en cl op s l ||| 0) = s := h1
  rw [h0, if_pos ⟨(bt_1 (by omega)).mpr hO, hz, hc⟩] at h1
  have : tb (s ||| pairM en l) i = tb s i := by rw [h1]
  rw [tb_or, he, Bool.or_true] at this
  exact this.symm
theorem reach_ok {en : Row} {cl op : Int32} {mm : Nat} (hmm : mm ≤ 12) (st : Int32) : ∀ (d f : Nat) (s : Int32), 32 - cntB s 32 ≤ d → d < f → subI st s → (∀ z, subI st z → shutI (pairM en) mm cl (fun l => tb op l) z → subI s z) →
    ∃ r, reachL en mm cl op f s = some r ∧ subI st r ∧ shutI (pairM en) mm cl (fun l => tb op l) r ∧ ∀ z, subI st z → shutI (pairM en) mm cl (fun l => tb op l) z → subI r z
  | d, 0, s, _, h, _, _ => absurd h (Nat.not_lt_zero _)
  | d, f + 1, s, hd, hf, hs, hz => by
    rw [reachL]
    by_cases q : passA en cl op s mm = s
    · rw [if_pos q]
      exact ⟨s, rfl, hs, pass_fix hmm q, hz⟩
    · rw [if_neg q]
      have hup := pass_up en cl op s mm
      have hex : ∃ i, i < 32 ∧ tb s i = false ∧ tb (passA en cl op s mm) i = true := by
        refine Classical.byContradiction fun w => q (tb_ext fun i hi => ?_)
        cases w1 : tb s i
        · cases w2 : tb (passA en cl op s mm) i
          · rfl
          · exact absurd ⟨i, hi, w1, w2⟩ w
        · exact hup i hi w1
      obtain ⟨i, hi, w1, w2⟩ := hex
      have hor : s ||| passA en cl op s mm = passA en cl op s mm := tb_ext fun j hj => by
        rw [tb_or]
        cases w : tb s j
        · rfl
        · rw [hup j hj w]; rfl
      have hlt := cntB_lt w1 w2 32 hi
      rw [hor] at hlt
      have hle := cntB_le (passA en cl op s mm) 32
      cases d with
      | zero => omega
      | succ d => exact reach_ok hmm st d f (passA en cl op s mm) (by omega) (by omega) (fun j hj w => hup j hj (hs j hj w)) (fun z h1 h2 => pass_in hmm h2 (hz z h1 h2) mm (Nat.le_refl _))
def RSv (en : Row) (mm : Nat) (cl st : Int32) (o : Nat) : Int32 := (reachL en mm cl (nI o) 40 st).getD 0
theorem RSv_ok {en : Row} {mm : Nat} (hmm : mm ≤ 12) (cl st : Int32) (o : Nat) : reachL en mm cl (nI o) 40 st = some (RSv en mm cl st o) ∧ subI st (RSv en mm cl st o) ∧ shutI (pairM en) mm cl (fun l => tb (nI o) l) (RSv en mm cl st o) ∧ ∀ z, subI st z → shutI (pairM en) mm cl (fun l => tb (nI o) l) z → subI (RSv en mm cl st o) z := by
  obtain ⟨r, h1, h2, h3, h4⟩ := reach_ok (en := en) (cl := cl) (op := nI o) hmm st 32 40 st (by omega) (by omega) (fun i _ h => h) (fun z h _ => h)
  have e : RSv en mm cl st o = r := by rw [RSv, h1]; rfl
  rw [e]
  exact ⟨h1, h2, h3, h4⟩
/-- beyond 12 lines nothing is asked of the reach but that it ends -/
theorem reach_ends {en : Row} {cl op : Int32} {mm : Nat} : ∀ (d f : Nat) (s : Int32), 32 - cntB s 32 ≤ d → d < f → ∃ r, reachL en mm cl op f s = some r
  | d, 0, s, _, h => absurd h (Nat.not_lt_zero _)
  | d, f + 1, s, hd, hf => by
    rw [reachL]
    by_cases q : passA en cl op s mm = s
    · rw [if_pos q]
      exact ⟨s, rfl⟩
    · rw [if_neg q]
      have hup := pass_up en cl op s mm
      have hex : ∃ i, i < 32 ∧ tb s i = false ∧ tb (passA en cl op s mm) i = true := by
        refine Classical.byContradiction fun w => q (tb_ext fun i hi => ?_)
        cases w1 : tb s i
        · cases w2 : tb (passA en cl op s mm) i
          · rfl
          · exact absurd ⟨i, hi, w1, w2⟩ w
        · exact hup i hi w1
      obtain ⟨i, hi, w1, w2⟩ := hex
      have hor : s ||| passA en cl op s mm = passA en cl op s mm := tb_ext fun j hj => by
        rw [tb_or]
        cases w : tb s j
        · rfl
        · rw [hup j hj w]; rfl
      have hlt := cntB_lt w1 w2 32 hi
      rw [hor] at hlt
      have hle := cntB_le (passA en cl op s mm) 32
      cases d with
      | zero => omega
      | succ d => exact reach_ends d f (passA en cl op s mm) (by omega) (by omega)
theorem RSv_any (en : Row) (mm : Nat) (cl st : Int32) (o : Nat) : reachL en mm cl (nI o) 40 st = some (RSv en mm cl st o) := by
  obtain ⟨r, h1⟩ := reach_ends (en := en) (mm := mm) (cl := cl) (op := nI o) 32 40 st (by omega) (by omega)
  rw [RSv, h1]
  rfl
theorem chan_sum (RS : Nat → Int32) {kn : Nat} (hk : kn < 32) (a b : Int32) {mm : Nat} (hmm : mm ≤ 12) : ∀ N, N ≤ 2 ^ mm → chanA RS (nI kn) a b mm N = sumO (fun o => if tb (RS o) kn = true then powL a.toInt64 (bitsN (nI o) mm) * powL (b - a).toInt64 (mm - bitsN (nI o) mm) else 0) N
  | 0, _ => rfl
  | N + 1, h => by
    show chanA RS (nI kn) a b mm N + (if bt (RS N) (nI kn) = 1 then _ else 0) = _ + (if tb (RS N) kn = true then _ else 0)
    rw [chan_sum RS hk a b hmm N (by omega)]
    by_cases q : tb (RS N) kn = true
    · rw [if_pos q, if_pos ((bt_1 hk).mpr q)]
    · rw [if_neg q, if_neg (fun z => q ((bt_1 hk).mp z))]
theorem powL_S (b : Int64) (k : Nat) : powL b (k + 1) = powL b k * b := rfl
theorem wgt_all (op sh : Int64) {o : Nat} (ho : o < 2 ^ 31) {T : Bits} : ∀ {k : Nat}, k ≤ 12 → (∀ l, l < k → T l = false) → wgt op sh T o.testBit k = powL op (bitsN (nI o) k) * powL sh (k - bitsN (nI o) k)
  | 0, _, _ => rfl
  | k + 1, hk, h => by
    have hle := bitsN_le (nI o) k
    show wgt op sh T o.testBit k * (if T k = true then 1 else if o.testBit k = true then op else sh) = powL op (bitsN (nI o) k + if bt (nI o) (nI k) = 1 then 1 else 0) * powL sh (k + 1 - (bitsN (nI o) k + if bt (nI o) (nI k) = 1 then 1 else 0))
    rw [wgt_all op sh ho (by omega) (fun l hl => h l (by omega)), h k (by omega), if_neg Bool.false_ne_true]
    by_cases q : o.testBit k = true
    · rw [if_pos q, if_pos ((bt_1 (by omega)).mpr (by rw [tb_nI ho]; exact q)), powL_S, show k + 1 - (bitsN (nI o) k + 1) = k - bitsN (nI o) k by omega]
      ac_rfl
    · rw [if_neg q, if_neg (fun z => q (by rw [← tb_nI ho]; exact (bt_1 (by omega)).mp z)), Nat.add_zero, show k + 1 - bitsN (nI o) k = (k - bitsN (nI o) k) + 1 by omega, powL_S]
      ac_rfl
/-- in how many ways: no more than there are -/
theorem pow_nat (B : Nat) : ∀ k, powL (lN B) k = lN (B ^ k)
  | 0 => rfl
  | k + 1 => by rw [powL_S, pow_nat B k, lN_mul, Nat.pow_succ]
theorem ways_nat {en : Row} {ba : Int32} {A B : Nat} {go : Int32} {ln : Nat} (hA : A + B < 2 ^ 31) : ∀ (f : Nat) (re tr : Int32), ∃ W, W ≤ (A + B) ^ f ∧ wF en ba (nI A) (nI B) go ln f re tr = lN W
  | 0, re, tr => by
    rw [wF]
    split
    · exact ⟨1, Nat.le_refl _, rfl⟩
    · exact ⟨0, Nat.zero_le _, rfl⟩
  | f + 1, re, tr => by
    rw [wF]
    split
    · exact ⟨(A + B) ^ (f + 1), Nat.le_refl _, by rw [nI_add, nI_l hA, pow_nat]⟩
    · split
      · exact ⟨0, Nat.zero_le _, rfl⟩
      · obtain ⟨W1, h1, e1⟩ := ways_nat (en := en) (ba := ba) (go := go) (ln := ln) hA f (re ||| en (loF en ba re tr ln 0).toNatClampNeg) (tr ||| ((1 : Int32) <<< (loF en ba re tr ln 0 &&& 31)))
        obtain ⟨W2, h2, e2⟩ := ways_nat (en := en) (ba := ba) (go := go) (ln := ln) hA f re (tr ||| ((1 : Int32) <<< (loF en ba re tr ln 0 &&& 31)))
        refine ⟨A * W1 + B * W2, ?_, by rw [e1, e2, nI_l (by omega), nI_l (by omega), lN_mul, lN_mul, lN_add]⟩
        have q1 := Nat.mul_le_mul_left A h1
        have q2 := Nat.mul_le_mul_left B h2
        rw [Nat.pow_succ, Nat.mul_comm ((A + B) ^ f), Nat.add_mul]
        omega
theorem lo_congr {en en' : Row} {ba re tr : Int32} : ∀ {f j : Nat}, (∀ l, j ≤ l → l < j + f → en l = en' l) → loF en ba re tr f j = loF en' ba re tr f j
  | 0, _, _ => rfl
  | f + 1, j, h => by
    rw [loF, loF, lo_congr (fun l h1 h2 => h l (by omega) (by omega))]
    unfold byL
    rw [h j (Nat.le_refl _) (by omega)]
theorem ways_congr {en en' : Row} {ba op sh go : Int32} {ln : Nat} (hln : ln < 2 ^ 31) (h : ∀ l, l < ln → en l = en' l) : ∀ (f : Nat) (re tr : Int32), wF en ba op sh go ln f re tr = wF en' ba op sh go ln f re tr
  | 0, re, tr => by rw [wF, wF]
  | f + 1, re, tr => by
    have e : loF en ba re tr ln 0 = loF en' ba re tr ln 0 := lo_congr (fun l _ h2 => h l (by omega))
    rw [wF, wF, e]
    by_cases q : loF en' ba re tr ln 0 = -1
    · rw [if_pos q, if_pos q]
    · obtain ⟨l, -, h2, h3, -⟩ := lo_some q
      rw [if_neg q, if_neg q, ways_congr hln h f, ways_congr hln h f, h3, nI_clamp (by omega), h l (by omega)]
def getQ (x : Option Int64) : Int64 := x.getD 0
/-- both answers of chance -/
theorem chance_eq {nn mm : Nat} (hn : nn ≤ 10) (hn1 : 1 ≤ nn) {en en' ec : Row} (hen : ∀ l, l < mm → en l = pairM en' l) (k fire gu a b what : Int32) :
    (chanV nn mm k fire gu a b what → gcdQ 60 (chanA (RSv en' mm (gu &&& (fire ^^^ (-1))) fire) k a b mm (2 ^ mm)) (powL b.toInt64 mm) = some (getQ (gcdQ 60 (chanA (RSv en' mm (gu &&& (fire ^^^ (-1))) fire) k a b mm (2 ^ mm)) (powL b.toInt64 mm))) ∧ (getQ (gcdQ 60 (chanA (RSv en' mm (gu &&& (fire ^^^ (-1))) fire) k a b mm (2 ^ mm)) (powL b.toInt64 mm))) ≠ 0) ∧
    chanO nn mm en ec k fire gu a b what = chanceR nn mm (chanA (RSv en' mm (gu &&& (fire ^^^ (-1))) fire) k a b mm (2 ^ mm)) (powL b.toInt64 mm) (getQ (gcdQ 60 (chanA (RSv en' mm (gu &&& (fire ^^^ (-1))) fire) k a b mm (2 ^ mm)) (powL b.toInt64 mm))) k fire gu a b what := by
  have key : chanV nn mm k fire gu a b what → ∃ u l : Nat, u < 2 ^ 63 ∧ l < 2 ^ 40 ∧ 0 < l ∧ chanA (RSv en' mm (gu &&& (fire ^^^ (-1))) fire) k a b mm (2 ^ mm) = lN u ∧ powL b.toInt64 mm = lN l ∧ wF (cpF en ec 12) (gu &&& (fire ^^^ (-1))) a (b - a) ((1 : Int32) <<< (k &&& 31)) mm mm fire 0 = lN u ∧ powL (a + (b - a)).toInt64 mm = lN l := by
    rintro ⟨v1, v2, v3, v4, v5, v6, v7⟩
    obtain ⟨kn, hkn, rfl⟩ := i_hasE hn hn1 v1
    obtain ⟨B, hB, rfl⟩ := i_ixe (n := 6) (Int32.le_trans (by decide) v4.1) v4.2 (by omega)
    obtain ⟨A, hA, rfl⟩ := i_ixe (n := B) v5.1 v5.2 (by omega)
    have hB1 : 1 ≤ B := (nI_leI (a := 1) (by omega) (by omega)).mp v4.1
    have e1 : nI B - nI A = nI (B - A) := pk_sub hA
    have e2 : nI A + nI (B - A) = nI B := by rw [nI_add, show A + (B - A) = B by omega]
    have hpow : B ^ mm ≤ 6 ^ 12 := Nat.le_trans (Nat.pow_le_pow_left hB mm) (Nat.pow_le_pow_right (by decide) v7)
    have h612 : 6 ^ 12 < 2 ^ 40 := by decide
    have hpos : 0 < B ^ mm := Nat.pow_pos (by omega)
    obtain ⟨W, hW, eW⟩ := ways_nat (en := pairM en') (ba := gu &&& (fire ^^^ (-1))) (A := A) (B := B - A) (go := (1 : Int32) <<< (nI kn &&& 31)) (ln := mm) (by omega) mm fire 0
    rw [show A + (B - A) = B by omega] at hW
    have ew : wF (cpF en ec 12) (gu &&& (fire ^^^ (-1))) (nI A) (nI B - nI A) ((1 : Int32) <<< (nI kn &&& 31)) mm mm fire 0 = lN W := by
      rw [e1, ← eW]
      exact ways_congr (by omega) (fun l hl => by rw [cpF, if_pos (by omega)]; exact hen l hl) mm fire 0
    refine ⟨W, B ^ mm, by omega, by omega, hpos, ?_, by rw [nI_l (by omega), pow_nat], ew, by rw [e1, e2, nI_l (by omega), pow_nat]⟩
    rw [← eW]
    have hR := fun o => RSv_ok (en := en') v7 (gu &&& (fire ^^^ (-1))) fire o
    have hp31 : 2 ^ mm ≤ 2 ^ 12 := Nat.pow_le_pow_right (by decide) v7
    have hbit : ∀ o, o < 2 ^ mm → (fun l => tb (nI o) l) = o.testBit := fun o ho => funext fun l => tb_nI (by omega) l
    have hw := ways_sum (en := pairM en') (mm := mm) v7 (cl := gu &&& (fire ^^^ (-1))) (st := fire) (op := nI A) (sh := nI (B - A)) (RS := RSv en' mm (gu &&& (fire ^^^ (-1))) fire) (kn := kn) (by omega)
      (fun o _ => (hR o).2.1) (fun o ho => by rw [← hbit o ho]; exact (hR o).2.2.1) (fun o ho => by rw [← hbit o ho]; exact (hR o).2.2.2) (by rw [e2, nI_l (by omega), nI_l (by omega), nI_l (by omega), lN_add, show A + (B - A) = B by omega])
      mm fire 0 (fun _ => false) (by
        have : ∀ j, cntU (fun l => tb 0 l) j = j := fun j => by
          induction j with
          | zero => rfl
          | succ j ih =>
            show cntU (fun l => tb 0 l) j + (if tb 0 j = true then 0 else 1) = j + 1
            rw [ih, tb_0, if_neg Bool.false_ne_true]
        exact this mm) (fun i _ h => h) (fun i hi h => by rw [tb_and, tb_not _ hi, h]; simp) (fun o _ _ => (hR o).2.1) (fun l _ _ v => by cases v)
    rw [hw, chan_sum _ (by omega) _ _ v7 _ (Nat.le_refl _)]
    refine sumO_congr fun o ho => ?_
    by_cases q : tb (RSv en' mm (gu &&& (fire ^^^ (-1))) fire o) kn = true
    · rw [if_pos q, trm_yes (P := fun o => tb (RSv en' mm (gu &&& (fire ^^^ (-1))) fire o) kn) ⟨fun l _ z => (by rw [tb_0] at z; cases z), q⟩, wgt_all _ _ (by omega) v7 (fun l _ => tb_0 l), e1]
    · rw [if_neg q]
      exact (trm_no (P := fun o => tb (RSv en' mm (gu &&& (fire ^^^ (-1))) fire o) kn) (fun z => q z.2)).symm
  by_cases hv : chanV nn mm k fire gu a b what
  · obtain ⟨u, l, hu, hl, hl0, c1, c2, c3, c4⟩ := key hv
    have hg : gcdQ 60 (lN u) (lN l) = some (lN (Nat.gcd u l)) := gcdQ_of 60 u l (by have := fib_60; omega) hu (by omega)
    have hgp : 0 < Nat.gcd u l := Nat.gcd_pos_of_pos_right u hl0
    have hgl : Nat.gcd u l ≤ l := Nat.le_of_dvd hl0 (Nat.gcd_dvd_right u l)
    rw [c1, c2, hg]
    refine ⟨fun _ => ⟨rfl, fun q => by have := (lN_nz (by omega)).mp (show lN (Nat.gcd u l) = 0 from q); omega⟩, ?_⟩
    obtain ⟨v1, v2, v3, v4, v5, v6, v7⟩ := hv
    unfold chanO chanceR
    rw [if_pos v1, if_pos v2, if_pos v3, if_pos v4, if_pos v5, if_pos v6, if_pos v7, if_pos v1, if_pos v2, if_pos v3, if_pos v4, if_pos v5, if_pos v6, if_pos v7, c3, c4, frac_nat hu (by omega) hl0]
    show _ = (if what = 0 then lN u / lN (Nat.gcd u l) else lN l / lN (Nat.gcd u l))
    by_cases w : what = 0
    · rw [if_pos w, if_pos w, pk_lDiv hu hgp (by omega)]
    · rw [if_neg w, if_neg w, pk_lDiv (by omega) hgp (by omega)]
  · refine ⟨fun q => absurd q hv, ?_⟩
    unfold chanO chanceR
    by_cases v1 : 0 ≤ k ∧ k ≤ nI nn - 1
    · rw [if_pos v1, if_pos v1]
      by_cases v2 : 1 ≤ fire ∧ fire ≤ allI (nI nn)
      · rw [if_pos v2, if_pos v2]
        by_cases v3 : 0 ≤ gu ∧ gu ≤ allI (nI nn)
        · rw [if_pos v3, if_pos v3]
          by_cases v4 : 1 ≤ b ∧ b ≤ 6
          · rw [if_pos v4, if_pos v4]
            by_cases v5 : 0 ≤ a ∧ a ≤ b
            · rw [if_pos v5, if_pos v5]
              by_cases v6 : 0 ≤ what ∧ what ≤ 1
              · rw [if_pos v6, if_pos v6, if_neg (fun v7 => hv ⟨v1, v2, v3, v4, v5, v6, v7⟩), if_neg (fun v7 => hv ⟨v1, v2, v3, v4, v5, v6, v7⟩)]
              · rw [if_neg v6, if_neg v6]
            · rw [if_neg v5, if_neg v5]
          · rw [if_neg v4, if_neg v4]
        · rw [if_neg v3, if_neg v3]
      · rw [if_neg v2, if_neg v2]
    · rw [if_neg v1, if_neg v1]

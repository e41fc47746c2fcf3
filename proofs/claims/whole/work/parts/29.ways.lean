/-! chances: the class's branching beside the sum over all ways -/
def sumO (g : Nat → Int64) : Nat → Int64
  | 0 => 0
  | k + 1 => sumO g k + g k
theorem sumO_congr {g h : Nat → Int64} : ∀ {N : Nat}, (∀ o, o < N → g o = h o) → sumO g N = sumO h N
  | 0, _ => rfl
  | N + 1, e => by
    show sumO g N + g N = sumO h N + h N
    rw [sumO_congr (fun o ho => e o (by omega)), e N (by omega)]
theorem sumO_zero {g : Nat → Int64} : ∀ {N : Nat}, (∀ o, o < N → g o = 0) → sumO g N = 0
  | 0, _ => rfl
  | N + 1, e => by
    show sumO g N + g N = 0
    rw [sumO_zero (fun o ho => e o (by omega)), e N (by omega), Int64.add_zero]
theorem sumO_lin (a b : Int64) (g h : Nat → Int64) : ∀ N : Nat, sumO (fun o => a * g o + b * h o) N = a * sumO g N + b * sumO h N
  | 0 => by
    show (0 : Int64) = a * 0 + b * 0
    rw [Int64.mul_zero, Int64.mul_zero, Int64.add_zero]
  | N + 1 => by
    show sumO (fun o => a * g o + b * h o) N + (a * g N + b * h N) = a * (sumO g N + g N) + b * (sumO h N + h N)
    rw [sumO_lin a b g h N, Int64.mul_add, Int64.mul_add]
    ac_rfl
theorem sumO_one {g : Nat → Int64} {v : Nat} (h : ∀ o, o ≠ v → g o = 0) : ∀ {N : Nat}, v < N → sumO g N = g v
  | 0, hv => absurd hv (Nat.not_lt_zero _)
  | N + 1, hv => by
    show sumO g N + g N = g v
    by_cases q : v = N
    · subst q
      rw [sumO_zero (fun o ho => h o (by omega)), Int64.zero_add]
    · rw [sumO_one h (show v < N by omega), h N (fun z => q z.symm), Int64.add_zero]
abbrev Bits := Nat → Bool
/-- what the lines that are not tried weigh -/
def wgt (op sh : Int64) (T O : Bits) : Nat → Int64
  | 0 => 1
  | l + 1 => wgt op sh T O l * (if T l = true then 1 else if O l = true then op else sh)
def setB (T : Bits) (i : Nat) (c : Bool) : Bits := fun l => if l = i then c else T l
theorem wgt_congr {op sh : Int64} {T T' O : Bits} : ∀ {k : Nat}, (∀ l, l < k → T l = T' l) → wgt op sh T O k = wgt op sh T' O k
  | 0, _ => rfl
  | k + 1, h => by
    show wgt op sh T O k * _ = wgt op sh T' O k * _
    rw [wgt_congr (fun l hl => h l (by omega)), h k (by omega)]
theorem wgt_split {op sh : Int64} {T O : Bits} {i : Nat} (hT : T i = false) : ∀ {k : Nat}, i < k → wgt op sh T O k = (if O i = true then op else sh) * wgt op sh (setB T i true) O k
  | 0, h => absurd h (Nat.not_lt_zero _)
  | k + 1, h => by
    show wgt op sh T O k * (if T k = true then 1 else if O k = true then op else sh) = (if O i = true then op else sh) * (wgt op sh (setB T i true) O k * (if setB T i true k = true then 1 else if O k = true then op else sh))
    by_cases q : i = k
    · subst q
      rw [hT, show setB T i true i = true from if_pos rfl, if_neg Bool.false_ne_true, if_pos rfl, Int64.mul_one, wgt_congr (T := T) (T' := setB T i true) (fun l hl => (if_neg (show ¬ l = i by omega)).symm), Int64.mul_comm]
    · rw [wgt_split hT (show i < k by omega), show setB T i true k = T k from if_neg (fun z => q z.symm), Int64.mul_assoc]
def MT (mm : Nat) (T V O : Bits) : Prop := ∀ l, l < mm → T l = true → O l = V l
theorem MT_split {mm : Nat} {T V O : Bits} {i : Nat} {c : Bool} (hi : i < mm) (hT : T i = false) : MT mm (setB T i true) (setB V i c) O ↔ (MT mm T V O ∧ O i = c) := by
  constructor
  · intro h
    refine ⟨fun l hl q => ?_, ?_⟩
    · have hne : l ≠ i := fun z => by rw [z, hT] at q; cases q
      have := h l hl (by rw [setB, if_neg hne]; exact q)
      rw [setB, if_neg hne] at this
      exact this
    · have := h i hi (by rw [setB, if_pos rfl])
      rw [setB, if_pos rfl] at this
      exact this
  · rintro ⟨h1, h2⟩ l hl q
    by_cases hne : l = i
    · subst hne
      rw [setB, if_pos rfl]
      exact h2
    · rw [setB, if_neg hne] at q ⊢
      exact h1 l hl q
noncomputable def trm (op sh : Int64) (mm : Nat) (T V : Bits) (P : Nat → Bool) (o : Nat) : Int64 := @ite Int64 (MT mm T V o.testBit ∧ P o = true) (Classical.propDecidable _) (wgt op sh T o.testBit mm) 0
theorem trm_yes {op sh : Int64} {mm : Nat} {T V : Bits} {P : Nat → Bool} {o : Nat} (h : MT mm T V o.testBit ∧ P o = true) : trm op sh mm T V P o = wgt op sh T o.testBit mm := if_pos h
theorem trm_no {op sh : Int64} {mm : Nat} {T V : Bits} {P : Nat → Bool} {o : Nat} (h : ¬ (MT mm T V o.testBit ∧ P o = true)) : trm op sh mm T V P o = 0 := if_neg h
theorem trm_split (op sh : Int64) {mm : Nat} {T : Bits} (V : Bits) (P : Nat → Bool) {i : Nat} (hi : i < mm) (hT : T i = false) (o : Nat) : trm op sh mm T V P o = op * trm op sh mm (setB T i true) (setB V i true) P o + sh * trm op sh mm (setB T i true) (setB V i false) P o := by
  by_cases hm : MT mm T V o.testBit ∧ P o = true
  · rw [trm_yes hm, wgt_split hT hi]
    cases hO : o.testBit i
    · rw [if_neg (by simp), trm_no (fun q => by have := ((MT_split hi hT).mp q.1).2; rw [hO] at this; cases this), trm_yes ⟨(MT_split hi hT).mpr ⟨hm.1, hO⟩, hm.2⟩, Int64.mul_zero, Int64.zero_add]
    · rw [if_pos rfl, trm_no (T := setB T i true) (V := setB V i false) (fun q => by have := ((MT_split hi hT).mp q.1).2; rw [hO] at this; cases this), trm_yes ⟨(MT_split hi hT).mpr ⟨hm.1, hO⟩, hm.2⟩, Int64.mul_zero, Int64.add_zero]
  · rw [trm_no hm, trm_no (fun q => hm ⟨((MT_split hi hT).mp q.1).1, q.2⟩), trm_no (fun q => hm ⟨((MT_split hi hT).mp q.1).1, q.2⟩), Int64.mul_zero, Int64.mul_zero, Int64.add_zero]
theorem sum_split (op sh : Int64) {mm : Nat} {T : Bits} (V : Bits) (P : Nat → Bool) {i : Nat} (hi : i < mm) (hT : T i = false) (N : Nat) : sumO (trm op sh mm T V P) N = op * sumO (trm op sh mm (setB T i true) (setB V i true) P) N + sh * sumO (trm op sh mm (setB T i true) (setB V i false) P) N := by
  rw [← sumO_lin]
  exact sumO_congr (fun o _ => trm_split op sh V P hi hT o)
def cntU (T : Bits) : Nat → Nat
  | 0 => 0
  | k + 1 => cntU T k + if T k = true then 0 else 1
theorem cntU_0 {T : Bits} : ∀ {k : Nat}, cntU T k = 0 → ∀ l, l < k → T l = true
  | 0, _, l, hl => absurd hl (Nat.not_lt_zero _)
  | k + 1, h, l, hl => by
    have h : cntU T k + (if T k = true then 0 else 1) = 0 := h
    by_cases q : T k = true
    · rw [if_pos q] at h
      by_cases z : l = k
      · rw [z]; exact q
      · exact cntU_0 (show cntU T k = 0 by omega) l (by omega)
    · rw [if_neg q] at h
      omega
theorem cntU_ex {T : Bits} : ∀ {k f : Nat}, cntU T k = f + 1 → ∃ i, i < k ∧ T i = false
  | 0, f, h => by
    have h : 0 = f + 1 := h
    omega
  | k + 1, f, h => by
    have h : cntU T k + (if T k = true then 0 else 1) = f + 1 := h
    by_cases q : T k = true
    · rw [if_pos q] at h
      obtain ⟨i, h1, h2⟩ := cntU_ex (T := T) (k := k) (f := f) (by omega)
      exact ⟨i, by omega, h2⟩
    · exact ⟨k, by omega, by cases z : T k with | false => rfl | true => exact absurd z q⟩
theorem cntU_congr {T T' : Bits} : ∀ {k : Nat}, (∀ l, l < k → T l = T' l) → cntU T k = cntU T' k
  | 0, _ => rfl
  | k + 1, h => by
    show cntU T k + _ = cntU T' k + _
    rw [cntU_congr (fun l hl => h l (by omega)), h k (by omega)]
theorem cntU_split {T : Bits} {i : Nat} (hT : T i = false) : ∀ {k : Nat}, i < k → cntU (setB T i true) k + 1 = cntU T k
  | 0, h => absurd h (Nat.not_lt_zero _)
  | k + 1, h => by
    show cntU (setB T i true) k + (if setB T i true k = true then 0 else 1) + 1 = cntU T k + (if T k = true then 0 else 1)
    by_cases q : i = k
    · subst q
      rw [hT, show setB T i true i = true from if_pos rfl, if_pos rfl, if_neg Bool.false_ne_true, cntU_congr (T := setB T i true) (T' := T) (fun l hl => if_neg (show ¬ l = i by omega))]
    · have := cntU_split hT (show i < k by omega)
      rw [show setB T i true k = T k from if_neg (fun z => q z.symm)]
      omega
theorem bits_ex (V : Bits) : ∀ mm : Nat, ∃ v, v < 2 ^ mm ∧ ∀ l, l < mm → v.testBit l = V l
  | 0 => ⟨0, by decide, fun l hl => absurd hl (Nat.not_lt_zero _)⟩
  | mm + 1 => by
    obtain ⟨v, h1, h2⟩ := bits_ex V mm
    have hp : 2 ^ (mm + 1) = 2 * 2 ^ mm := by rw [Nat.pow_succ, Nat.mul_comm]
    cases hV : V mm
    · refine ⟨v, by omega, fun l hl => ?_⟩
      by_cases q : l = mm
      · rw [q, hV]
        exact Nat.testBit_lt_two_pow h1
      · exact h2 l (by omega)
    · refine ⟨2 ^ mm + v, by omega, fun l hl => ?_⟩
      by_cases q : l = mm
      · rw [q, hV, Nat.testBit_two_pow_add_eq, Nat.testBit_lt_two_pow h1]
        rfl
      · rw [Nat.testBit_two_pow_add_gt (by omega)]
        exact h2 l (by omega)
theorem wgt_done {op sh : Int64} {T O : Bits} : ∀ {k : Nat}, (∀ l, l < k → T l = true) → wgt op sh T O k = 1
  | 0, _ => rfl
  | k + 1, h => by
    show wgt op sh T O k * (if T k = true then 1 else _) = 1
    rw [wgt_done (fun l hl => h l (by omega)), if_pos (h k (by omega)), Int64.mul_one]
theorem lt_bits {x y mm : Nat} (hx : x < 2 ^ mm) (hy : y < 2 ^ mm) (h : ∀ l, l < mm → x.testBit l = y.testBit l) : x = y := Nat.eq_of_testBit_eq fun i => by
  rcases Nat.lt_or_ge i mm with q | q
  · exact h i q
  · rw [Nat.testBit_lt_two_pow (Nat.lt_of_lt_of_le hx (Nat.pow_le_pow_right (by decide) q)), Nat.testBit_lt_two_pow (Nat.lt_of_lt_of_le hy (Nat.pow_le_pow_right (by decide) q))]
theorem binom (op sh : Int64) {mm : Nat} : ∀ (f : Nat) (T V : Bits), cntU T mm = f → sumO (trm op sh mm T V (fun _ => true)) (2 ^ mm) = powL (op + sh) f
  | 0, T, V, h => by
    obtain ⟨v, h1, h2⟩ := bits_ex V mm
    have hT := cntU_0 h
    have e : sumO (trm op sh mm T V (fun _ => true)) (2 ^ mm) = sumO (fun o => if o = v then 1 else 0) (2 ^ mm) := sumO_congr fun o ho => by
      by_cases q : o = v
      · rw [if_pos q, q, trm_yes ⟨fun l hl _ => h2 l hl, rfl⟩, wgt_done hT]
      · rw [if_neg q, trm_no]
        rintro ⟨m, -⟩
        exact q (lt_bits ho h1 (fun l hl => (m l hl (hT l hl)).trans (h2 l hl).symm))
    rw [e, sumO_one (v := v) (fun o ho => if_neg ho) h1, if_pos rfl]
    rfl
  | f + 1, T, V, h => by
    obtain ⟨i, hi, hT⟩ := cntU_ex h
    have hs := cntU_split hT hi
    rw [sum_split op sh V _ hi hT, binom op sh f _ _ (by omega), binom op sh f _ _ (by omega), ← Int64.add_mul, Int64.mul_comm]
    rfl
/-- sets of nodes, as bits -/
def subI (x y : Int32) : Prop := ∀ i, i < 32 → tb x i = true → tb y i = true
/-- a set that the open lines don't lead out of -/
def shutI (en : Row) (mm : Nat) (cl : Int32) (O : Bits) (z : Int32) : Prop := ∀ l, l < mm → O l = true → en l &&& cl = 0 → ¬ z &&& en l = 0 → subI (en l) z
theorem and_nz {x y : Int32} : ¬ x &&& y = 0 ↔ ∃ i, i < 32 ∧ tb x i = true ∧ tb y i = true := by
  rw [zero_iff]
  constructor
  · intro h
    refine Classical.byContradiction fun q => h fun i hi => ?_
    rw [tb_and]
    cases h1 : tb x i
    · rfl
    · cases h2 : tb y i
      · rfl
      · exact absurd ⟨i, hi, h1, h2⟩ q
  · rintro ⟨i, hi, h1, h2⟩ h
    have := h i hi
    rw [tb_and, h1, h2] at this
    cases this
abbrev onw (en : Row) (ba re tr : Int32) (j : Nat) : Prop := ¬ byL en re j = 0 ∧ ¬ byL en re j = en j ∧ byL en re j &&& ba = 0 ∧ bt tr (nI j) = 0
theorem lo_none {en : Row} {ba re tr : Int32} : ∀ {f j : Nat}, j + f < 2 ^ 31 → loF en ba re tr f j = -1 → ∀ l, j ≤ l → l < j + f → ¬ onw en ba re tr l
  | 0, j, _, _, l, h1, h2 => by omega
  | f + 1, j, hj, h, l, h1, h2 => by
    rw [loF] at h
    by_cases q : onw en ba re tr j
    · rw [if_pos q] at h
      have := nI_pos (n := j) (by omega)
      rw [h] at this
      exact absurd (by decide) this
    · rw [if_neg q] at h
      by_cases z : l = j
      · rw [z]; exact q
      · exact lo_none (by omega) h l (by omega) (by omega)
theorem lo_some {en : Row} {ba re tr : Int32} : ∀ {f j : Nat}, ¬ loF en ba re tr f j = -1 → ∃ l, j ≤ l ∧ l < j + f ∧ loF en ba re tr f j = nI l ∧ onw en ba re tr l
  | 0, j, h => absurd rfl h
  | f + 1, j, h => by
    rw [loF] at h ⊢
    by_cases q : onw en ba re tr j
    · rw [if_pos q]
      exact ⟨j, Nat.le_refl _, by omega, rfl, q⟩
    · rw [if_neg q] at h ⊢
      obtain ⟨l, h1, h2, h3, h4⟩ := lo_some h
      exact ⟨l, by omega, by omega, h3, h4⟩
theorem goal_bit {re : Int32} {k : Nat} (hk : k < 32) : ¬ re &&& ((1 : Int32) <<< (nI k &&& 31)) = 0 ↔ tb re k = true := by
  rw [and_nz]
  constructor
  · rintro ⟨i, hi, h1, h2⟩
    rw [tb_shl k hk i hi] at h2
    have := of_decide_eq_true h2
    rw [← this]; exact h1
  · intro h
    exact ⟨k, hk, h, by rw [tb_shl k hk k hk]; exact decide_eq_true rfl⟩
/-- the branching is the sum -/
theorem ways_sum {en : Row} {mm : Nat} (hmm : mm ≤ 12) {cl st op sh : Int32} {RS : Nat → Int32} {kn : Nat} (hk : kn < 32)
    (h1 : ∀ o, o < 2 ^ mm → subI st (RS o)) (h2 : ∀ o, o < 2 ^ mm → shutI en mm cl o.testBit (RS o)) (h3 : ∀ o, o < 2 ^ mm → ∀ z, subI st z → shutI en mm cl o.testBit z → subI (RS o) z) (hos : (op + sh).toInt64 = op.toInt64 + sh.toInt64) :
    ∀ (f : Nat) (re tr : Int32) (V : Bits), cntU (fun l => tb tr l) mm = f → subI st re → (∀ i, i < 32 → tb re i = true → tb cl i = false) → (∀ o, o < 2 ^ mm → MT mm (fun l => tb tr l) V o.testBit → subI re (RS o)) → (∀ l, l < mm → tb tr l = true → V l = true → subI (en l) re) →
      wF en cl op sh ((1 : Int32) <<< (nI kn &&& 31)) mm f re tr = sumO (trm op.toInt64 sh.toInt64 mm (fun l => tb tr l) V (fun o => tb (RS o) kn)) (2 ^ mm) := by
  have hit : ∀ (f : Nat) (re tr : Int32) (V : Bits), cntU (fun l => tb tr l) mm = f → (∀ o, o < 2 ^ mm → MT mm (fun l => tb tr l) V o.testBit → subI re (RS o)) → tb re kn = true → sumO (trm op.toInt64 sh.toInt64 mm (fun l => tb tr l) V (fun o => tb (RS o) kn)) (2 ^ mm) = powL (op + sh).toInt64 f := by
    intro f re tr V hf h5 hg
    rw [hos, ← binom op.toInt64 sh.toInt64 f (fun l => tb tr l) V hf]
    refine sumO_congr fun o ho => ?_
    by_cases q : MT mm (fun l => tb tr l) V o.testBit
    · rw [trm_yes ⟨q, h5 o ho q kn hk hg⟩, trm_yes ⟨q, rfl⟩]
    · rw [trm_no (fun z => q z.1), trm_no (fun z => q z.1)]
  have hnone : ∀ (re tr : Int32) (V : Bits), subI st re → (∀ l, l < mm → tb tr l = true → V l = true → subI (en l) re) → (∀ l, l < mm → ¬ onw en cl re tr l) → ¬ tb re kn = true → sumO (trm op.toInt64 sh.toInt64 mm (fun l => tb tr l) V (fun o => tb (RS o) kn)) (2 ^ mm) = 0 := by
    intro re tr V h4 h7 hno hg
    refine sumO_zero fun o ho => trm_no ?_
    rintro ⟨hm, hP⟩
    refine hg (h3 o ho re h4 (fun l hl hO hc hz => ?_) kn hk hP)
    by_cases hT : tb tr l = true
    · exact h7 l hl hT ((hm l hl hT).symm.trans hO)
    · refine Classical.byContradiction fun hsub => hno l hl ⟨fun z => ?_, fun z => ?_, ?_, ?_⟩
      · refine hsub fun i hi hei => ?_
        have := zero_iff.mp z i hi
        rw [tb_and, hei, tb_not _ hi] at this
        cases w : tb re i
        · rw [w] at this; cases this
        · rfl
      · obtain ⟨i, hi, a1, a2⟩ := and_nz.mp hz
        have : tb (byL en re l) i = tb (en l) i := by rw [z]
        rw [tb_and, a2, tb_not _ hi, a1] at this
        cases this
      · refine zero_iff.mpr fun i hi => ?_
        have := zero_iff.mp hc i hi
        rw [tb_and] at this
        rw [tb_and, tb_and]
        cases a : tb (en l) i
        · rfl
        · rw [a] at this
          have : tb cl i = false := this
          rw [this, Bool.and_false]
      · exact Decidable.byContradiction fun w => hT ((bt_n0 (by omega)).mp w)
  intro f
  induction f with
  | zero =>
    intro re tr V hf h4 h5 h6 h7
    rw [wF]
    by_cases hg : tb re kn = true
    · rw [if_pos ((goal_bit hk).mpr hg), hit 0 re tr V hf h6 hg]
    · rw [if_neg (fun z => hg ((goal_bit hk).mp z)), hnone re tr V h4 h7 (fun l hl z => ?_) hg]
      have := cntU_0 hf l hl
      exact absurd z.2.2.2 ((bt_n0 (by omega)).mpr this)
  | succ f ih =>
    intro re tr V hf h4 h5 h6 h7
    rw [wF]
    by_cases hg : tb re kn = true
    · rw [if_pos ((goal_bit hk).mpr hg), hit (f + 1) re tr V hf h6 hg]
    · rw [if_neg (fun z => hg ((goal_bit hk).mp z))]
      by_cases hlo : loF en cl re tr mm 0 = -1
      · rw [if_pos hlo, hnone re tr V h4 h7 (fun l hl => lo_none (by omega) hlo l (by omega) (by omega)) hg]
      · rw [if_neg hlo]
        obtain ⟨i, -, hi, elo, o1, o2, o3, o4⟩ := lo_some hlo
        have hi : i < mm := by omega
        rw [elo, nI_clamp (by omega)]
        have hTi : (fun l => tb tr l) i = false := by
          show tb tr i = false
          cases w : tb tr i
          · rfl
          · exact absurd o4 ((bt_n0 (by omega)).mpr w)
        have htr : ∀ l, l < 32 → tb (tr ||| ((1 : Int32) <<< (nI i &&& 31))) l = setB (fun l => tb tr l) i true l := fun l hl => by
          rw [tb_or, tb_shl i (by omega) l hl]
          unfold setB
          by_cases z : l = i
          · rw [if_pos z, decide_eq_true z, Bool.or_true]
          · rw [if_neg z, decide_eq_false z, Bool.or_false]
        have hcnt : cntU (fun l => tb (tr ||| ((1 : Int32) <<< (nI i &&& 31))) l) mm = f := by
          rw [cntU_congr (T' := setB (fun l => tb tr l) i true) (fun l hl => htr l (by omega))]
          have hs : cntU (setB (fun l => tb tr l) i true) mm + 1 = cntU (fun l => tb tr l) mm := cntU_split hTi hi
          exact Nat.add_right_cancel (hs.trans hf)
        have hMT : ∀ (W O : Bits), MT mm (fun l => tb (tr ||| ((1 : Int32) <<< (nI i &&& 31))) l) W O ↔ MT mm (setB (fun l => tb tr l) i true) W O := fun W O => by
          constructor
          · intro m l hl q
            exact m l hl ((htr l (by omega)).trans q)
          · intro m l hl q
            exact m l hl ((htr l (by omega)).symm.trans q)
        have htrm : ∀ (W : Bits), sumO (trm op.toInt64 sh.toInt64 mm (fun l => tb (tr ||| ((1 : Int32) <<< (nI i &&& 31))) l) W (fun o => tb (RS o) kn)) (2 ^ mm) = sumO (trm op.toInt64 sh.toInt64 mm (setB (fun l => tb tr l) i true) W (fun o => tb (RS o) kn)) (2 ^ mm) := fun W => sumO_congr fun o ho => by
          by_cases q : MT mm (setB (fun l => tb tr l) i true) W o.testBit ∧ tb (RS o) kn = true
          · exact (trm_yes (T := fun l => tb (tr ||| ((1 : Int32) <<< (nI i &&& 31))) l) ⟨(hMT W _).mpr q.1, q.2⟩).trans ((wgt_congr (fun l hl => htr l (by omega))).trans (trm_yes q).symm)
          · exact (trm_no (T := fun l => tb (tr ||| ((1 : Int32) <<< (nI i &&& 31))) l) (fun z => q ⟨(hMT W _).mp z.1, z.2⟩)).trans (trm_no q).symm
        -- no end of the line is barred
        have hbar : ∀ j, j < 32 → tb (en i) j = true → tb cl j = false := fun j hj hej => by
          cases w : tb re j
          · have := zero_iff.mp o3 j hj
            rw [tb_and, tb_and, hej, tb_not _ hj, w] at this
            exact this
          · exact h5 j hj w
        have hcl : en i &&& cl = 0 := zero_iff.mpr fun j hj => by
          rw [tb_and]
          cases w : tb (en i) j
          · rfl
          · rw [hbar j hj w]; rfl
        have htouch : ∃ j, j < 32 ∧ tb re j = true ∧ tb (en i) j = true := by
          refine Classical.byContradiction fun q => o2 (tb_ext fun j hj => ?_)
          rw [tb_and, tb_not _ hj]
          cases w1 : tb (en i) j
          · rfl
          · cases w2 : tb re j
            · rfl
            · exact absurd ⟨j, hj, w2, w1⟩ q
        have ih1 := ih (re ||| en i) (tr ||| ((1 : Int32) <<< (nI i &&& 31))) (setB V i true) hcnt
          (fun j hj q => by rw [tb_or, h4 j hj q, Bool.true_or])
          (fun j hj q => by
            rw [tb_or] at q
            cases w : tb re j
            · rw [w, Bool.false_or] at q
              exact hbar j hj q
            · exact h5 j hj w)
          (fun o ho m => by
            have m2 := (MT_split hi hTi).mp ((hMT _ _).mp m)
            have s1 := h6 o ho m2.1
            obtain ⟨j0, hj0, w1, w2⟩ := htouch
            have s2 := h2 o ho i hi m2.2 hcl (and_nz.mpr ⟨j0, hj0, s1 j0 hj0 w1, w2⟩)
            intro j hj q
            rw [tb_or] at q
            cases w : tb re j
            · rw [w, Bool.false_or] at q
              exact s2 j hj q
            · exact s1 j hj w)
          (fun l hl q v j hj w => by
            rw [tb_or]
            rw [htr l (by omega)] at q
            by_cases z : l = i
            · rw [z] at w
              rw [w, Bool.or_true]
            · rw [setB, if_neg z] at q v
              rw [h7 l hl q v j hj w, Bool.true_or])
        have ih2 := ih re (tr ||| ((1 : Int32) <<< (nI i &&& 31))) (setB V i false) hcnt h4 h5
          (fun o ho m => h6 o ho ((MT_split hi hTi).mp ((hMT _ _).mp m)).1)
          (fun l hl q v => by
            rw [htr l (by omega)] at q
            by_cases z : l = i
            · rw [z, setB, if_pos rfl] at v
              cases v
            · rw [setB, if_neg z] at q v
              exact h7 l hl q v)
        rw [ih1, ih2, htrm, htrm, ← sum_split op.toInt64 sh.toInt64 V _ hi hTi]

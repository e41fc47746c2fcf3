/-! plays -/
theorem tb_nI {m : Nat} (hm : m < 2 ^ 31) (i : Nat) : tb (nI m) i = m.testBit i := by
  by_cases hi : i < 32
  · show (BitVec.ofNat 32 m).getLsbD i = _
    rw [BitVec.getLsbD_ofNat, decide_eq_true hi, Bool.true_and]
  · rw [tb_big (by omega)]
    exact (Nat.testBit_lt_two_pow (Nat.lt_of_lt_of_le hm (Nat.pow_le_pow_right (by decide) (by omega)))).symm
theorem le_all {n : Nat} (hn : n ≤ 10) {v : Int32} (hv : 0 ≤ v) : v ≤ allI (nI n) ↔ below n v := by
  obtain ⟨m, hm, rfl⟩ := nI_of (i_nlt hv)
  rw [allI_nat hn, nI_leI hm (Nat.lt_of_le_of_lt (allN_le hn) (by decide))]
  have hp : 0 < 2 ^ n := Nat.pow_pos (by decide)
  constructor
  · intro h i hi
    rw [tb_nI hm]
    refine Nat.testBit_lt_two_pow (Nat.lt_of_lt_of_le ?_ (Nat.pow_le_pow_right (by decide) hi))
    unfold allN at h
    omega
  · intro h
    have : m < 2 ^ n := Nat.lt_pow_two_of_testBit m (fun i hi => by rw [← tb_nI hm]; exact h i hi)
    unfold allN
    omega
theorem zero_iff {x : Int32} : x = 0 ↔ ∀ i, i < 32 → tb x i = false := ⟨fun h i _ => by rw [h]; exact tb_0 i, fun h => tb_ext (fun i hi => by rw [h i hi, tb_0])⟩
theorem law_bits {n : Nat} (hn : n ≤ 10) {v bu gu : Int32} (hv : 0 ≤ v) : v &&& (freeI (nI n) bu gu ^^^ (-1)) = 0 ↔ (v ≤ allI (nI n) ∧ v &&& (bu ||| gu) = 0) := by
  rw [le_all hn hv, zero_iff, zero_iff]
  have hf : ∀ i, i < 32 → tb (freeI (nI n) bu gu ^^^ (-1)) i = !(decide (i < n) && !tb bu i && !tb gu i) := fun i hi => by
    rw [tb_not _ hi]
    show (!tb (allI (nI n) &&& (bu ^^^ (-1)) &&& (gu ^^^ (-1))) i) = _
    rw [tb_and, tb_and, tb_not _ hi, tb_not _ hi, tb_all n (by omega) i hi]
  constructor
  · intro h
    refine ⟨fun i hi => ?_, fun i hi => ?_⟩
    · by_cases h32 : i < 32
      · have := h i h32
        rw [tb_and, hf i h32, decide_eq_false (by omega)] at this
        simpa using this
      · exact tb_big (by omega)
    · have := h i hi
      rw [tb_and, hf i hi] at this
      rw [tb_and, tb_or]
      cases h1 : tb v i <;> cases h2 : tb bu i <;> cases h3 : tb gu i <;> simp [h1, h2, h3] at this ⊢
  · rintro ⟨h1, h2⟩ i hi
    have a := h2 i hi
    rw [tb_and, tb_or] at a
    rw [tb_and, hf i hi]
    by_cases hin : i < n
    · rw [decide_eq_true hin]
      cases q1 : tb v i <;> cases q2 : tb bu i <;> cases q3 : tb gu i <;> simp [q1, q2, q3] at a ⊢
    · rw [h1 i (by omega)]; rfl
/-- how many nodes below k -/
def cntB (x : Int32) : Nat → Nat
  | 0 => 0
  | k + 1 => cntB x k + if tb x k = true then 1 else 0
theorem cntB_le (x : Int32) : ∀ k, cntB x k ≤ k
  | 0 => Nat.le_refl _
  | k + 1 => by
    have := cntB_le x k
    show cntB x k + (if tb x k = true then 1 else 0) ≤ k + 1
    split <;> omega
theorem cntB_or (x y : Int32) : ∀ k, cntB x k ≤ cntB (x ||| y) k
  | 0 => Nat.le_refl _
  | k + 1 => by
    have := cntB_or x y k
    show cntB x k + (if tb x k = true then 1 else 0) ≤ cntB (x ||| y) k + (if tb (x ||| y) k = true then 1 else 0)
    rw [tb_or]
    by_cases h : tb x k = true
    · rw [h]; simp; exact this
    · rw [if_neg h]; omega
theorem cntB_lt {x y : Int32} {i : Nat} (h1 : tb x i = false) (h2 : tb y i = true) : ∀ k, i < k → cntB x k < cntB (x ||| y) k
  | 0, h => absurd h (Nat.not_lt_zero _)
  | k + 1, h => by
    show cntB x k + (if tb x k = true then 1 else 0) < cntB (x ||| y) k + (if tb (x ||| y) k = true then 1 else 0)
    have hm := cntB_or x y k
    by_cases hk : i = k
    · subst hk
      rw [tb_or, h1, h2]
      simp
      omega
    · have := cntB_lt h1 h2 k (by omega)
      rw [tb_or]
      by_cases q : tb x k = true
      · rw [q]; simp; exact this
      · rw [if_neg q]; omega
theorem near_off {ne : Row} {n : Nat} {bu gu : Int32} {i : Nat} (hi : i < 32) (h : tb (nearM n ne bu gu) i = true) : tb bu i = false := by
  unfold nearM at h
  rw [tb_and, tb_and, tb_not _ hi, tb_not _ hi] at h
  cases q : tb bu i
  · rfl
  · rw [q] at h; simp at h
/-- a fire that goes on burns one more at least -/
theorem near_more {ne : Row} {n : Nat} (hn : n ≤ 10) {bu gu : Int32} (hb : ∀ k, k < n → below n (ne k)) (h : ¬ nearM n ne bu gu = 0) : cntB bu n < cntB (bu ||| nearM n ne bu gu) n := by
  have : ∃ i, i < 32 ∧ tb (nearM n ne bu gu) i = true := by
    refine Classical.byContradiction fun q => h (zero_iff.mpr fun i hi => ?_)
    cases z : tb (nearM n ne bu gu) i
    · rfl
    · exact absurd ⟨i, hi, z⟩ q
  obtain ⟨i, hi, z⟩ := this
  have hin : i < n := Nat.not_le.mp fun q => by rw [below_thr hb i q] at z; cases z
  exact cntB_lt (near_off hi z) z n hin
/-- money -/
theorem fill_eq {ow ow' : Row} {ke : Int32} {ke' : Bool} (ho : ∀ t, t < 8 → ow t = ow' (t + 1)) (hk : ke = 1 ↔ ke' = true) {t : Nat} (ht : 1 ≤ t) (le : Int32) : moneyI ow ke t le = fillM ow' ke' t le := by
  unfold moneyI fillM
  have e : ow (min t 8 - 1) = if t < 8 then ow' t else ow' 8 := by
    rw [ho _ (by omega)]
    by_cases h : t < 8
    · rw [if_pos h, show min t 8 - 1 + 1 = t by omega]
    · rw [if_neg h, show min t 8 - 1 + 1 = 8 by omega]
  rw [e]
  by_cases h : ke' = true
  · rw [if_pos h, if_pos (hk.mpr h)]
    split <;> rw [Int32.add_comm]
  · rw [if_neg h, if_neg (fun z => h (hk.mp z))]
    split <;> rw [Int32.add_zero, Int32.zero_add]

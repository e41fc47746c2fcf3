/-! sets by rising numbers, on naturals -/
def subN (s f : Nat) : Prop := ∀ i, s.testBit i = true → f.testBit i = true
/-- the next set within f: how many places are left, f, the set -/
def nx : Nat → Nat → Nat → Nat
  | 0, _, _ => 0
  | w + 1, f, s => if f % 2 = 1 ∧ s % 2 = 0 then s + 1 else 2 * nx w (f / 2) (s / 2)
theorem subN_half {s f : Nat} (h : subN s f) : subN (s / 2) (f / 2) := fun i hi => by
  rw [← Nat.testBit_add_one] at hi ⊢
  exact h (i + 1) hi
theorem subN_low {s f : Nat} (h : subN s f) : s % 2 = 1 → f % 2 = 1 := fun q => by
  have := h 0 (by rw [Nat.testBit_zero]; exact decide_eq_true q)
  rw [Nat.testBit_zero] at this
  exact of_decide_eq_true this
theorem subN_of {s f : Nat} (h0 : s % 2 = 1 → f % 2 = 1) (h : subN (s / 2) (f / 2)) : subN s f := fun i hi => by
  cases i with
  | zero =>
    rw [Nat.testBit_zero] at hi ⊢
    exact decide_eq_true (h0 (of_decide_eq_true hi))
  | succ i =>
    rw [Nat.testBit_add_one] at hi ⊢
    exact h i hi
theorem nx_least : ∀ (w f s u : Nat), subN s f → subN u f → s < u → u < 2 ^ w → nx w f s ≠ 0 ∧ nx w f s ≤ u
  | 0, f, s, u, _, _, h, hu => by simp at hu; omega
  | w + 1, f, s, u, hs, hu, h, hw => by
    unfold nx
    by_cases q : f % 2 = 1 ∧ s % 2 = 0
    · rw [if_pos q]
      omega
    · rw [if_neg q]
      have h1 := subN_low hu
      have h2 : s / 2 < u / 2 := by
        rcases Nat.lt_or_ge (s / 2) (u / 2) with z | z
        · exact z
        · exfalso
          have e : s / 2 = u / 2 := by omega
          have : u % 2 = 1 ∧ s % 2 = 0 := by omega
          exact q ⟨h1 this.1, this.2⟩
      have ih := nx_least w (f / 2) (s / 2) (u / 2) (subN_half hs) (subN_half hu) h2 (by rw [Nat.pow_succ] at hw; omega)
      omega
theorem nx_next : ∀ (w f s : Nat), subN s f → nx w f s ≠ 0 → s < nx w f s ∧ subN (nx w f s) f
  | 0, f, s, _, h => absurd rfl h
  | w + 1, f, s, hs, h => by
    unfold nx at h ⊢
    by_cases q : f % 2 = 1 ∧ s % 2 = 0
    · rw [if_pos q]
      refine ⟨by omega, subN_of (fun _ => q.1) ?_⟩
      rw [show (s + 1) / 2 = s / 2 by omega]
      exact subN_half hs
    · rw [if_neg q] at h ⊢
      have ih := nx_next w (f / 2) (s / 2) (subN_half hs) (by omega)
      refine ⟨by omega, subN_of (by omega) ?_⟩
      rw [show 2 * nx w (f / 2) (s / 2) / 2 = nx w (f / 2) (s / 2) by omega]
      exact ih.2
theorem subN_le {s f : Nat} (h : subN s f) : s ≤ f := by
  have e : s &&& f = s := Nat.eq_of_testBit_eq fun i => by
    rw [Nat.testBit_and]
    cases q : s.testBit i
    · rfl
    · rw [h i q]; rfl
  rw [← e]
  exact Nat.and_le_right
theorem bit_halves {a b : Nat} (h0 : a % 2 = b % 2) (h1 : a / 2 = b / 2) : a = b := by omega
theorem and_low (a b : Nat) : (a &&& b) % 2 = if a % 2 = 1 ∧ b % 2 = 1 then 1 else 0 := by
  have := @Nat.and_mod_two_eq_one a b
  split
  · rename_i h; exact this.mpr h
  · rename_i h
    have : ¬ (a &&& b) % 2 = 1 := fun q => h (this.mp q)
    omega
theorem or_low (a b : Nat) : (a ||| b) % 2 = if a % 2 = 1 ∨ b % 2 = 1 then 1 else 0 := by
  have := @Nat.or_mod_two_eq_one a b
  split
  · rename_i h; exact this.mpr h
  · rename_i h
    have : ¬ (a ||| b) % 2 = 1 := fun q => h (this.mp q)
    omega
theorem nx_bits : ∀ (w f s : Nat), f < 2 ^ w → subN s f → ((s ||| (2 ^ w - 1 - f)) + 1) % 2 ^ w &&& f = nx w f s
  | 0, f, s, hf, hs => by
    have : f = 0 := by simp at hf; omega
    subst this
    simp [nx]
  | w + 1, f, s, hf, hs => by
    have hp : 2 ^ (w + 1) = 2 * 2 ^ w := by rw [Nat.pow_succ, Nat.mul_comm]
    have hf2 : f / 2 < 2 ^ w := by omega
    have ih := nx_bits w (f / 2) (s / 2) hf2 (subN_half hs)
    have hpos : 0 < 2 ^ w := Nat.pow_pos (by decide)
    generalize hc : 2 ^ (w + 1) - 1 - f = c
    have hc2 : c / 2 = 2 ^ w - 1 - f / 2 := by omega
    have hc0 : c % 2 = 1 - f % 2 := by omega
    have hA2 : (s ||| c) / 2 = s / 2 ||| (2 ^ w - 1 - f / 2) := by rw [Nat.or_div_two, hc2]
    have hA0 := or_low s c
    have hlow := subN_low hs
    unfold nx
    by_cases q : f % 2 = 1 ∧ s % 2 = 0
    · rw [if_pos q]
      have hA : (s ||| c) % 2 = 0 := by rw [hA0, if_neg (by omega)]
      have hlt : (s ||| c) < 2 ^ (w + 1) := Nat.or_lt_two_pow (by have := subN_le hs; omega) (by omega)
      rw [Nat.mod_eq_of_lt (by omega)]
      apply bit_halves
      · rw [and_low, if_pos (by omega)]; omega
      · rw [Nat.and_div_two, show ((s ||| c) + 1) / 2 = (s ||| c) / 2 by omega, hA2, show (s + 1) / 2 = s / 2 by omega]
        refine Nat.eq_of_testBit_eq fun i => ?_
        rw [Nat.testBit_and, Nat.testBit_or, show 2 ^ w - 1 - f / 2 = 2 ^ w - (f / 2 + 1) by omega, Nat.testBit_two_pow_sub_succ hf2]
        have := subN_half hs i
        cases z : (s / 2).testBit i
        · cases y : (f / 2).testBit i
          · simp
          · simp
        · rw [this z]; rfl
    · rw [if_neg q]
      have hA : (s ||| c) % 2 = 1 := by rw [hA0, if_pos (by omega)]
      have e : ((s ||| c) + 1) % 2 ^ (w + 1) = 2 * (((s ||| c) / 2 + 1) % 2 ^ w) := by
        rw [hp, show (s ||| c) + 1 = 2 * ((s ||| c) / 2 + 1) by omega, Nat.mul_mod_mul_left]
      rw [e, hA2]
      apply bit_halves
      · rw [and_low, if_neg (by omega)]; omega
      · rw [Nat.and_div_two, show (2 * (((s / 2 ||| (2 ^ w - 1 - f / 2)) + 1) % 2 ^ w)) / 2 = ((s / 2 ||| (2 ^ w - 1 - f / 2)) + 1) % 2 ^ w by omega, ih]
        omega
theorem tn_nI {m : Nat} (h : m < 2 ^ 32) : (nI m).toBitVec.toNat = m := pk_tn h
theorem nextW_nat {f s : Nat} (hf : f < 1024) (hs : subN s f) : nextW (nI f) (nI s) = nI (nx 32 f s) := by
  have hs2 := subN_le hs
  apply Int32.toBitVec_inj.mp
  apply BitVec.eq_of_toNat_eq
  have hle : nx 32 f s < 2 ^ 32 := by
    rw [← nx_bits 32 f s (by omega) hs]
    exact Nat.lt_of_le_of_lt Nat.and_le_right (by omega)
  rw [pk_tn hle, ← nx_bits 32 f s (by omega) hs]
  unfold nextW
  rw [Int32.toBitVec_and, BitVec.toNat_and, Int32.toBitVec_add, BitVec.toNat_add, Int32.toBitVec_or, BitVec.toNat_or, pk_tn (by omega), pk_tn (by omega)]
  have e : (nI f ^^^ (-1)).toBitVec.toNat = 2 ^ 32 - 1 - f := by
    have e1 : (nI f ^^^ (-1)).toBitVec = ~~~ (nI f).toBitVec := by
      rw [Int32.toBitVec_xor, ← BitVec.xor_allOnes]
      rfl
    rw [e1, BitVec.toNat_not, pk_tn (by omega)]
  rw [e]
  rfl
/-- behind a set that is too dear: the last one that holds it -/
theorem last_nat : ∀ s, s < 1024 → s ≠ 0 → ∃ p, p < 10 ∧ lastAb (nI s) = nI (s ||| (2 ^ p - 1)) ∧ (s ||| (2 ^ p - 1)) = s + (2 ^ p - 1) ∧ s % 2 ^ p = 0 := by decide +kernel
theorem last_sub {s u p : Nat} (hm : s % 2 ^ p = 0) (h1 : s ≤ u) (h2 : u ≤ s + (2 ^ p - 1)) : subN s u := fun i hi => by
  have hp : 0 < 2 ^ p := Nat.pow_pos (by decide)
  have e : u / 2 ^ p = s / 2 ^ p := by
    have hs := Nat.div_add_mod s (2 ^ p)
    rw [hm, Nat.add_zero] at hs
    have hu := Nat.div_add_mod u (2 ^ p)
    have hu2 := Nat.mod_lt u hp
    rcases Nat.lt_trichotomy (u / 2 ^ p) (s / 2 ^ p) with z | z | z
    · exfalso
      have := Nat.mul_le_mul_left (2 ^ p) (show u / 2 ^ p + 1 ≤ s / 2 ^ p by omega)
      rw [Nat.mul_add] at this
      omega
    · exact z
    · exfalso
      have := Nat.mul_le_mul_left (2 ^ p) (show s / 2 ^ p + 1 ≤ u / 2 ^ p by omega)
      rw [Nat.mul_add] at this
      omega
  rcases Nat.lt_or_ge i p with z | z
  · exfalso
    have := Nat.testBit_mod_two_pow s p i
    rw [hm, Nat.zero_testBit, decide_eq_true z, hi] at this
    cases this
  · obtain ⟨j, rfl⟩ : ∃ j, i = j + p := ⟨i - p, by omega⟩
    rw [← Nat.testBit_div_two_pow] at hi ⊢
    rw [e]
    exact hi
/-- the cut of that last one to f -/
theorem last_cut {s f p : Nat} (hs : subN s f) (he : (s ||| (2 ^ p - 1)) = s + (2 ^ p - 1)) : s ≤ (s ||| (2 ^ p - 1)) &&& f ∧ (s ||| (2 ^ p - 1)) &&& f ≤ s + (2 ^ p - 1) ∧ subN ((s ||| (2 ^ p - 1)) &&& f) f := by
  refine ⟨subN_le fun i hi => ?_, by rw [← he]; exact Nat.and_le_left, fun i hi => ?_⟩
  · rw [Nat.testBit_and, Nat.testBit_or, hi, hs i hi]; rfl
  · rw [Nat.testBit_and] at hi
    cases q : f.testBit i
    · rw [q, Bool.and_false] at hi; cases hi
    · rfl
theorem nextW_cut (f s : Int32) : nextW f s = nextW f (s &&& f) := by
  unfold nextW
  have e : s ||| (f ^^^ (-1)) = s &&& f ||| (f ^^^ (-1)) := tb_ext fun i hi => by
    rw [tb_or, tb_or, tb_and, tb_not _ hi]
    cases tb s i <;> cases tb f i <;> rfl
  rw [e]
theorem nI_and {a b : Nat} (ha : a < 2 ^ 32) (hb : b < 2 ^ 32) : nI a &&& nI b = nI (a &&& b) := by
  apply Int32.toBitVec_inj.mp
  apply BitVec.eq_of_toNat_eq
  rw [Int32.toBitVec_and, BitVec.toNat_and, pk_tn ha, pk_tn hb, pk_tn (Nat.lt_of_le_of_lt Nat.and_le_left ha)]
/-- what a set costs -/
def costN (p : Nat → Nat) (s : Nat) : Nat → Nat
  | 0 => 0
  | k + 1 => costN p s k + if s.testBit k = true then p k else 0
theorem costN_le {p : Nat → Nat} {n : Nat} (hp : ∀ k, k < n → p k ≤ 9) (s : Nat) : ∀ k, k ≤ n → costN p s k ≤ 9 * k
  | 0, _ => Nat.le_refl _
  | k + 1, h => by
    have := costN_le hp s k (by omega)
    have := hp k (by omega)
    show costN p s k + (if s.testBit k = true then p k else 0) ≤ 9 * (k + 1)
    split <;> omega
theorem costN_mono (p : Nat → Nat) {s u : Nat} (h : subN s u) : ∀ k, costN p s k ≤ costN p u k
  | 0 => Nat.le_refl _
  | k + 1 => by
    have ih := costN_mono p h k
    show costN p s k + (if s.testBit k = true then p k else 0) ≤ costN p u k + (if u.testBit k = true then p k else 0)
    by_cases q : s.testBit k = true
    · rw [if_pos q, if_pos (h k q)]; omega
    · rw [if_neg q]; omega
theorem costN_0 (p : Nat → Nat) : ∀ k, costN p 0 k = 0
  | 0 => rfl
  | k + 1 => by
    show costN p 0 k + (if (0 : Nat).testBit k = true then p k else 0) = 0
    rw [costN_0 p k, Nat.zero_testBit, if_neg (by decide)]
theorem sum_nat {row : Row} {p : Nat → Nat} {n : Nat} (hn : n ≤ 10) (hp : ∀ k, k < n → row k = nI (p k)) {s : Nat} (hs : s < 2 ^ 31) : ∀ k, k ≤ n → sumM row (nI s) k = nI (costN p s k)
  | 0, _ => rfl
  | k + 1, h => by
    show sumM row (nI s) k + bt (nI s) (nI k) * row k = nI (costN p s k + if s.testBit k = true then p k else 0)
    rw [sum_nat hn hp hs k (by omega), bt_tb _ (by omega), tb_nI hs, hp k (by omega)]
    by_cases q : s.testBit k = true
    · rw [if_pos q, if_pos q, Int32.one_mul, nI_add]
    · rw [if_neg q, if_neg q, Int32.zero_mul, Int32.add_zero, Nat.add_zero]

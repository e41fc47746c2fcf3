/-! divisors: both sides find the same -/
def fibN : Nat → Nat
  | 0 => 0
  | 1 => 1
  | n + 2 => fibN n + fibN (n + 1)
theorem cmp_eq0 (x y : Int64) : lg_cmp x y = 0 ↔ x = y := by
  unfold lg_cmp
  by_cases h1 : x > y
  · rw [if_pos h1]
    refine ⟨fun q => absurd q (by decide), fun q => ?_⟩
    rw [q] at h1
    exact absurd h1 Int64.lt_irrefl
  · rw [if_neg h1]
    by_cases h2 : x = y
    · rw [if_pos h2]; exact ⟨fun _ => h2, fun _ => rfl⟩
    · rw [if_neg h2]; exact ⟨fun q => absurd q (by decide), fun q => absurd q h2⟩
theorem lN_nz {a : Nat} (h : a < 2 ^ 63) : lN a = 0 ↔ a = 0 := by
  rw [show (0 : Int64) = lN 0 from rfl, pk_lEQ h (by omega)]
theorem gcd_rec {x y : Nat} (h : y ≠ 0) : Nat.gcd x y = Nat.gcd y (x % y) := by
  rw [Nat.gcd_comm x y, Nat.gcd_rec y x, Nat.gcd_comm]
theorem gcdA_nat : ∀ (f x y : Nat), y < fibN (f + 1) → x < 2 ^ 63 → y < 2 ^ 63 → gcdA f (lN x) (lN y) = lN (Nat.gcd x y)
  | 0, x, y, h, _, _ => by
    have e : fibN (0 + 1) = 1 := rfl
    have : y = 0 := by omega
    subst this
    rw [gcdA, Nat.gcd_zero_right]
  | 1, x, y, h, hx, hy => by
    have e : fibN (1 + 1) = 1 := rfl
    have : y = 0 := by omega
    subst this
    rw [gcdA, if_pos ((cmp_eq0 (lN 0) 0).mpr rfl), Nat.gcd_zero_right]
  | f + 2, x, y, h, hx, hy => by
    rw [gcdA]
    by_cases h0 : y = 0
    · subst h0
      rw [if_pos ((cmp_eq0 (lN 0) 0).mpr rfl), Nat.gcd_zero_right]
    · rw [if_neg (fun q => h0 ((lN_nz hy).mp ((cmp_eq0 _ _).mp q))), pk_lRem hx (by omega) hy, gcd_rec h0]
      have hm := Nat.mod_lt x (show y > 0 by omega)
      have e3 : fibN (f + 2 + 1) = fibN (f + 1) + fibN (f + 2) := rfl
      rcases Nat.lt_or_ge (x % y) (fibN (f + 2)) with q | q
      · exact gcdA_nat (f + 1) y (x % y) q hy (by omega)
      · rw [gcdA]
        have h1 : x % y ≠ 0 := fun z => by
          rw [z] at q
          have : 0 < fibN (f + 2) := by
            have : ∀ k, 0 < fibN (k + 1) ∧ 0 < fibN (k + 2) := fun k => by
              induction k with
              | zero => exact ⟨by decide, by decide⟩
              | succ k ih => exact ⟨ih.2, by show 0 < fibN (k + 1) + fibN (k + 2); omega⟩
            exact (this (f + 1)).1
          omega
        rw [if_neg (fun w => h1 ((lN_nz (by omega)).mp ((cmp_eq0 _ _).mp w))), pk_lRem hy (by omega) (by omega), gcd_rec h1]
        have h2 : y % (x % y) < fibN (f + 1) := by
          have := Nat.mod_lt y (show x % y > 0 by omega)
          have h3 : y % (x % y) ≤ y - x % y := by
            have h4 := Nat.div_add_mod y (x % y)
            have h5 : 1 ≤ y / (x % y) := (Nat.one_le_div_iff (by omega)).mpr (by omega)
            have h6 := Nat.mul_le_mul_left (x % y) h5
            omega
          omega
        have h7 : y % (x % y) < x % y := Nat.mod_lt y (by omega)
        exact gcdA_nat f (x % y) (y % (x % y)) h2 (by omega) (by omega)
theorem gcdQ_of : ∀ (f x y : Nat), y < fibN f → x < 2 ^ 63 → y < 2 ^ 63 → gcdQ f (lN x) (lN y) = some (lN (Nat.gcd x y))
  | 0, x, y, h, _, _ => by
    have e : fibN 0 = 0 := rfl
    omega
  | 1, x, y, h, hx, hy => by
    have e : fibN 1 = 1 := rfl
    have : y = 0 := by omega
    subst this
    rw [gcdQ, if_pos (show lN 0 = 0 from rfl), Nat.gcd_zero_right]
  | f + 2, x, y, h, hx, hy => by
    rw [gcdQ]
    by_cases h0 : y = 0
    · subst h0
      rw [if_pos (show lN 0 = 0 from rfl), Nat.gcd_zero_right]
    · rw [if_neg (fun q => h0 ((lN_nz hy).mp q)), pk_lRem hx (by omega) hy, gcd_rec h0]
      have hm := Nat.mod_lt x (show y > 0 by omega)
      have e3 : fibN (f + 2) = fibN f + fibN (f + 1) := rfl
      rcases Nat.lt_or_ge (x % y) (fibN (f + 1)) with q | q
      · exact gcdQ_of (f + 1) y (x % y) q hy (by omega)
      · rw [gcdQ]
        have hp : 0 < fibN (f + 1) := by
          have : ∀ k, 0 < fibN (k + 1) ∧ 0 < fibN (k + 2) := fun k => by
            induction k with
            | zero => exact ⟨by decide, by decide⟩
            | succ k ih => exact ⟨ih.2, by show 0 < fibN (k + 1) + fibN (k + 2); omega⟩
          exact (this f).1
        have h1 : x % y ≠ 0 := by omega
        rw [if_neg (fun w => h1 ((lN_nz (by omega)).mp w)), pk_lRem hy (by omega) (by omega), gcd_rec h1]
        have h2 : y % (x % y) < fibN f := by
          have := Nat.mod_lt y (show x % y > 0 by omega)
          have h3 : y % (x % y) ≤ y - x % y := by
            have h4 := Nat.div_add_mod y (x % y)
            have h5 : 1 ≤ y / (x % y) := (Nat.one_le_div_iff (by omega)).mpr (by omega)
            have h6 := Nat.mul_le_mul_left (x % y) h5
            omega
          omega
        have h7 : y % (x % y) < x % y := Nat.mod_lt y (by omega)
        exact gcdQ_of f (x % y) (y % (x % y)) h2 (by omega) (by omega)
theorem gcdL_of : ∀ (f x y : Nat), y < fibN f → x < 2 ^ 31 → y < 2 ^ 31 → gcdL f (nI x) (nI y) = some (nI (Nat.gcd x y))
  | 0, x, y, h, _, _ => by
    have e : fibN 0 = 0 := rfl
    omega
  | 1, x, y, h, hx, hy => by
    have e : fibN 1 = 1 := rfl
    have : y = 0 := by omega
    subst this
    rw [gcdL, if_pos (show nI 0 = 0 from rfl), Nat.gcd_zero_right]
  | f + 2, x, y, h, hx, hy => by
    rw [gcdL]
    by_cases h0 : y = 0
    · subst h0
      rw [if_pos (show nI 0 = 0 from rfl), Nat.gcd_zero_right]
    · rw [if_neg (nI_ne0 (by omega) hy), pk_rem hx (by omega) hy, gcd_rec h0]
      have hm := Nat.mod_lt x (show y > 0 by omega)
      have e3 : fibN (f + 2) = fibN f + fibN (f + 1) := rfl
      rcases Nat.lt_or_ge (x % y) (fibN (f + 1)) with q | q
      · exact gcdL_of (f + 1) y (x % y) q hy (by omega)
      · rw [gcdL]
        have hp : 0 < fibN (f + 1) := by
          have : ∀ k, 0 < fibN (k + 1) ∧ 0 < fibN (k + 2) := fun k => by
            induction k with
            | zero => exact ⟨by decide, by decide⟩
            | succ k ih => exact ⟨ih.2, by show 0 < fibN (k + 1) + fibN (k + 2); omega⟩
          exact (this f).1
        have h1 : x % y ≠ 0 := by omega
        rw [if_neg (nI_ne0 (by omega) (by omega)), pk_rem hy (by omega) (by omega), gcd_rec h1]
        have h2 : y % (x % y) < fibN f := by
          have := Nat.mod_lt y (show x % y > 0 by omega)
          have h3 : y % (x % y) ≤ y - x % y := by
            have h4 := Nat.div_add_mod y (x % y)
            have h5 : 1 ≤ y / (x % y) := (Nat.one_le_div_iff (by omega)).mpr (by omega)
            have h6 := Nat.mul_le_mul_left (x % y) h5
            omega
          omega
        have h7 : y % (x % y) < x % y := Nat.mod_lt y (by omega)
        exact gcdL_of f (x % y) (y % (x % y)) h2 (by omega) (by omega)
def fibS : Nat → Nat × Nat
  | 0 => (0, 1)
  | n + 1 => ((fibS n).2, (fibS n).1 + (fibS n).2)
theorem fibS_eq : ∀ n, fibS n = (fibN n, fibN (n + 1))
  | 0 => rfl
  | n + 1 => by
    show ((fibS n).2, (fibS n).1 + (fibS n).2) = _
    rw [fibS_eq n]
    rfl
theorem fib_60 : 2 ^ 40 < fibN 60 := by
  have h : (fibS 60).1 = fibN 60 := by rw [fibS_eq]
  rw [← h]
  decide +kernel
theorem fib_101 : 2 ^ 63 ≤ fibN 101 := by
  have h : (fibS 101).1 = fibN 101 := by rw [fibS_eq]
  rw [← h]
  decide +kernel
theorem fib_30 : 2 ^ 19 < fibN 30 := by
  have h : (fibS 30).1 = fibN 30 := by rw [fibS_eq]
  rw [← h]
  decide +kernel
/-- the class's fraction -/
theorem frac_nat {u l : Nat} (hu : u < 2 ^ 63) (hl : l < 2 ^ 63) (h0 : 0 < l) (what : Int32) : fracI (lN u) (lN l) what = lN ((if what = 0 then u else l) / Nat.gcd u l) := by
  have hf : 2 ^ 63 ≤ fibN (100 + 1) := fib_101
  have e : gcdA 100 (lN u) (lN l) = lN (Nat.gcd u l) := gcdA_nat 100 u l (by omega) hu hl
  have hg : 0 < Nat.gcd u l := Nat.gcd_pos_of_pos_right u h0
  have hgl : Nat.gcd u l ≤ l := Nat.le_of_dvd h0 (Nat.gcd_dvd_right u l)
  unfold fracI
  rw [e, if_neg (fun q => by have := (lN_nz (by omega)).mp ((cmp_eq0 _ _).mp q); omega)]
  by_cases w : what = 0
  · rw [if_pos w, if_pos w, pk_lDiv hu hg (by omega)]
  · rw [if_neg w, if_neg w, pk_lDiv hl hg (by omega)]
theorem part_nat {u l : Nat} (hu : u < 2 ^ 31) (hl : l < 2 ^ 31) (h0 : 0 < l) (what : Int32) : partR (nI u) (nI l) (nI (Nat.gcd u l)) what = nI ((if what = 0 then u else l) / Nat.gcd u l) := by
  have hg : 0 < Nat.gcd u l := Nat.gcd_pos_of_pos_right u h0
  have hgl : Nat.gcd u l ≤ l := Nat.le_of_dvd h0 (Nat.gcd_dvd_right u l)
  unfold partR
  by_cases w : what = 0
  · rw [if_pos w, if_pos w, pk_div hu hg (by omega)]
  · rw [if_neg w, if_neg w, pk_div hl hg (by omega)]
theorem frac_part {u l : Nat} (hu : u < 2 ^ 31) (hl : l < 2 ^ 19) (h0 : 0 < l) (what : Int32) : (fracI (nI u).toInt64 (nI l).toInt64 what).toInt32 = partR (nI u) (nI l) (nI (Nat.gcd u l)) what ∧ gcdL 30 (nI u) (nI l) = some (nI (Nat.gcd u l)) ∧ nI (Nat.gcd u l) ≠ 0 := by
  have hf := fib_30
  have hg : 0 < Nat.gcd u l := Nat.gcd_pos_of_pos_right u h0
  have hgl : Nat.gcd u l ≤ l := Nat.le_of_dvd h0 (Nat.gcd_dvd_right u l)
  refine ⟨?_, gcdL_of 30 u l (by omega) hu (by omega), nI_ne0 hg (by omega)⟩
  rw [nI_l hu, nI_l (by omega), frac_nat (by omega) (by omega) h0, part_nat hu (by omega) h0, lN_i]

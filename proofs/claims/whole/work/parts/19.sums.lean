/-! no machine from here on: the class's functions against the reference's -/
def tb (x : Int32) (i : Nat) : Bool := x.toBitVec.getLsbD i
theorem tb_ext {x y : Int32} (h : ∀ i, i < 32 → tb x i = tb y i) : x = y := Int32.toBitVec_inj.mp (BitVec.eq_of_getLsbD_eq (fun i hi => h i hi))
theorem tb_or (x y : Int32) (i : Nat) : tb (x ||| y) i = (tb x i || tb y i) := by unfold tb; rw [Int32.toBitVec_or, BitVec.getLsbD_or]
theorem tb_and (x y : Int32) (i : Nat) : tb (x &&& y) i = (tb x i && tb y i) := by unfold tb; rw [Int32.toBitVec_and, BitVec.getLsbD_and]
theorem tb_xor (x y : Int32) (i : Nat) : tb (x ^^^ y) i = (tb x i ^^ tb y i) := by unfold tb; rw [Int32.toBitVec_xor, BitVec.getLsbD_xor]
theorem tb_big {x : Int32} {i : Nat} (h : 32 ≤ i) : tb x i = false := BitVec.getLsbD_of_ge _ _ h
theorem tb_m1 : ∀ i, i < 32 → tb (-1) i = true := by decide +kernel
theorem tb_0 (i : Nat) : tb 0 i = false := BitVec.getLsbD_zero
theorem tb_not (x : Int32) {i : Nat} (hi : i < 32) : tb (x ^^^ (-1)) i = !tb x i := by rw [tb_xor, tb_m1 i hi]; cases tb x i <;> rfl
theorem tb_cnt : ∀ n, n < 32 → ((nI n &&& 31).toBitVec.smod 32).toNat = n := by decide +kernel
theorem tb_ssh (n : Nat) (hn : n < 32) (x : Int32) {i : Nat} (hi : n + i < 32) : tb (x >>> (nI n &&& 31)) i = tb x (n + i) := by
  unfold tb
  have h : (x >>> (nI n &&& 31)).toBitVec = x.toBitVec.sshiftRight n := by
    rw [Int32.toBitVec_shiftRight, BitVec.sshiftRight_eq', tb_cnt n hn]
  rw [h, BitVec.getLsbD_sshiftRight, if_pos hi, decide_eq_false (by omega : ¬ 32 ≤ i)]
  simp
theorem tb_one : ∀ i, i < 32 → tb 1 i = decide (i = 0) := by decide +kernel
theorem bt_tb (x : Int32) {k : Nat} (hk : k < 32) : bt x (nI k) = if tb x k = true then 1 else 0 := by
  have h0 : tb (bt x (nI k)) 0 = tb x k := by
    show tb (x >>> (nI k &&& 31) &&& 1) 0 = _
    rw [tb_and, tb_ssh k hk x (by omega), tb_one 0 (by omega)]
    simp
  rcases bt_01 x (nI k) with h | h
  · rw [h] at h0 ⊢
    rw [if_pos (by rw [← h0]; decide)]
  · rw [h] at h0 ⊢
    rw [if_neg (by rw [← h0]; decide)]
theorem bt_1 {x : Int32} {k : Nat} (hk : k < 32) : bt x (nI k) = 1 ↔ tb x k = true := by
  rw [bt_tb x hk]
  by_cases h : tb x k = true
  · rw [if_pos h]; exact ⟨fun _ => h, fun _ => rfl⟩
  · rw [if_neg h]; exact ⟨fun q => absurd q (by decide), fun q => absurd q h⟩
theorem bt_n0 {x : Int32} {k : Nat} (hk : k < 32) : ¬ bt x (nI k) = 0 ↔ tb x k = true := by
  rw [bt_tb x hk]
  by_cases h : tb x k = true
  · rw [if_pos h]; exact ⟨fun _ => h, fun _ => by decide⟩
  · rw [if_neg h]; exact ⟨fun q => absurd rfl q, fun q => absurd q h⟩
theorem tb_shl : ∀ k, k < 32 → ∀ i, i < 32 → tb ((1 : Int32) <<< (nI k &&& 31)) i = decide (i = k) := by decide +kernel
theorem tb_all : ∀ n, n < 11 → ∀ i, i < 32 → tb (allI (nI n)) i = decide (i < n) := by decide +kernel
/-- the numbers of a set of nodes below n -/
def below (n : Nat) (x : Int32) : Prop := ∀ i, n ≤ i → tb x i = false
theorem below_or {n : Nat} {x y : Int32} (hx : below n x) (hy : below n y) : below n (x ||| y) := fun i hi => by rw [tb_or, hx i hi, hy i hi]; rfl
theorem below_and {n : Nat} {x y : Int32} (hx : below n x) : below n (x &&& y) := fun i hi => by rw [tb_and, hx i hi]; rfl
theorem below_and2 {n : Nat} {x y : Int32} (hy : below n y) : below n (x &&& y) := fun i hi => by rw [tb_and, hy i hi, Bool.and_false]
theorem below_0 (n : Nat) : below n 0 := fun i _ => tb_0 i
theorem below_all {n : Nat} (hn : n ≤ 10) : below n (allI (nI n)) := fun i hi => by
  by_cases h : i < 32
  · rw [tb_all n (by omega) i h, decide_eq_false (by omega)]
  · exact tb_big (by omega)
theorem below_shl {n k : Nat} (hk : k < n) (hn : n ≤ 10) : below n ((1 : Int32) <<< (nI k &&& 31)) := fun i hi => by
  by_cases h : i < 32
  · rw [tb_shl k (by omega) i h, decide_eq_false (by omega)]
  · exact tb_big (by omega)
/-- sums: ten against n -/
theorem sum_upto {row row' : Row} {set : Int32} {n : Nat} (h : ∀ k, k < n → row k = row' k) : sumI row set n = sumM row' set n := by
  induction n with
  | zero => rfl
  | succ k ih =>
    show sumI row set k + row k * bt set (nI k) = sumM row' set k + bt set (nI k) * row' k
    rw [ih (fun j hj => h j (by omega)), h k (by omega), Int32.mul_comm]
theorem sum_ten {row row' : Row} {set : Int32} {n : Nat} (hn : n ≤ 10) (h : ∀ k, k < n → row k = row' k) (hb : below n set) : sumI row set 10 = sumM row' set n := by
  have : ∀ j, n + j ≤ 10 → sumI row set (n + j) = sumI row set n := by
    intro j
    induction j with
    | zero => intro _; rfl
    | succ j ih =>
      intro hj
      show sumI row set (n + j) + row (n + j) * bt set (nI (n + j)) = _
      rw [ih (by omega), bt_tb set (by omega), hb (n + j) (by omega), if_neg (by decide), Int32.mul_zero, Int32.add_zero]
  rw [show (10 : Nat) = n + (10 - n) by omega, this (10 - n) (by omega)]
  exact sum_upto h
theorem saved_eq {wo wo' : Row} {n : Nat} (hn : n ≤ 10) (h : ∀ k, k < n → wo k = wo' k) (bu : Int32) : savedI (nI n) wo bu = savedM n wo' bu := sum_ten hn h (below_and (below_all hn))
/-- what fire may reach next -/
theorem near_upto {ne ne' : Row} {bu : Int32} {n : Nat} (hn : n ≤ 10) (h : ∀ k, k < n → ne k = ne' k) : thrA ne bu n = nearA ne' bu n := by
  induction n with
  | zero => rfl
  | succ k ih =>
    show (if ¬ bt bu (nI k) = 0 then thrA ne bu k ||| ne k else thrA ne bu k) = (if bt bu (nI k) = 1 then nearA ne' bu k ||| ne' k else nearA ne' bu k ||| 0)
    rw [ih (by omega) (fun j hj => h j (by omega)), h k (by omega)]
    by_cases q : tb bu k = true
    · rw [if_pos ((bt_n0 (by omega)).mpr q), if_pos ((bt_1 (by omega)).mpr q)]
    · rw [if_neg (fun z => q ((bt_n0 (by omega)).mp z)), if_neg (fun z => q ((bt_1 (by omega)).mp z)), Int32.or_zero]
theorem thr_eq {ne ne' : Row} {bu : Int32} {n : Nat} (hn : n ≤ 10) (h : ∀ k, k < n → ne k = ne' k) (hb : below n bu) (gu : Int32) : thr ne bu gu = nearM n ne' bu gu := by
  have : ∀ j, n + j ≤ 10 → thrA ne bu (n + j) = thrA ne bu n := by
    intro j
    induction j with
    | zero => intro _; rfl
    | succ j ih =>
      intro hj
      show (if ¬ bt bu (nI (n + j)) = 0 then _ else thrA ne bu (n + j)) = _
      rw [if_neg (fun z => absurd ((bt_n0 (by omega)).mp z) (by rw [hb (n + j) (by omega)]; decide)), ih (by omega)]
  have e : thrA ne bu 10 = nearA ne' bu n := by
    rw [show (10 : Nat) = n + (10 - n) by omega, this (10 - n) (by omega)]
    exact near_upto hn h
  show thrA ne bu 10 &&& _ &&& _ = nearA ne' bu n &&& _ &&& _
  rw [e]
theorem below_thr {ne : Row} {n : Nat} {bu gu : Int32} (h : ∀ k, k < n → below n (ne k)) : below n (nearM n ne bu gu) := by
  have : ∀ j, j ≤ n → below n (nearA ne bu j) := by
    intro j
    induction j with
    | zero => intro _; exact below_0 n
    | succ j ih =>
      intro hj
      show below n (if bt bu (nI j) = 1 then nearA ne bu j ||| ne j else nearA ne bu j ||| 0)
      split
      · exact below_or (ih (by omega)) (h j (by omega))
      · exact below_or (ih (by omega)) (below_0 n)
  exact below_and (below_and (this n (Nat.le_refl _)))

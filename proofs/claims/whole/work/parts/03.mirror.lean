/-! what the class computes, as functions on ints -/
abbrev Row := Nat → Int32
def bt (x k : Int32) : Int32 := (x >>> (k &&& 31)) &&& 1
def allI (n : Int32) : Int32 := (1 : Int32) <<< (n &&& 31) - 1
def sumI (row : Row) (set : Int32) : Nat → Int32
  | 0 => 0
  | k + 1 => sumI row set k + row k * bt set (nI k)
def thrA (ne : Row) (bu : Int32) : Nat → Int32
  | 0 => 0
  | k + 1 => if ¬ bt bu (nI k) = 0 then thrA ne bu k ||| ne k else thrA ne bu k
def thr (ne : Row) (bu gu : Int32) : Int32 := thrA ne bu 10 &&& (bu ^^^ (-1)) &&& (gu ^^^ (-1))
def freeI (n bu gu : Int32) : Int32 := allI n &&& (bu ^^^ (-1)) &&& (gu ^^^ (-1))
def savedI (n : Int32) (wo : Row) (bu : Int32) : Int32 := sumI wo (allI n &&& (bu ^^^ (-1))) 10
def popI (x : Int32) : Int32 :=
  let a := x - ((x.toUInt32 >>> ((1 : Int32).toUInt32 &&& Int32.toUInt32 31)).toInt32 &&& 1431655765)
  let b := (a &&& 858993459) + ((a.toUInt32 >>> ((2 : Int32).toUInt32 &&& Int32.toUInt32 31)).toInt32 &&& 858993459)
  let c := (b + (b.toUInt32 >>> ((4 : Int32).toUInt32 &&& Int32.toUInt32 31)).toInt32) &&& 252645135
  let d := c + (c.toUInt32 >>> ((8 : Int32).toUInt32 &&& Int32.toUInt32 31)).toInt32
  let e := d + (d.toUInt32 >>> ((16 : Int32).toUInt32 &&& Int32.toUInt32 31)).toInt32
  e &&& 63
def rankI (wo ne : Row) (rule taken : Int32) (k : Nat) : Int32 := if rule = 1 then wo k else if rule = 2 then popI (ne k &&& (taken ^^^ (-1))) else 0
def pickS (wo ne pr : Row) (rule bu gu th money : Int32) (k : Nat) (q : Int32 × Int32) : Int32 × Int32 :=
  if ¬ bt th (nI k) = 0 ∧ pr k ≤ money ∧ q.2 < rankI wo ne rule (bu ||| gu) k then (nI k, rankI wo ne rule (bu ||| gu) k) else q
def pickA (wo ne pr : Row) (rule bu gu th money : Int32) : Nat → Int32 × Int32
  | 0 => (-1, -1)
  | k + 1 => pickS wo ne pr rule bu gu th money k (pickA wo ne pr rule bu gu th money k)
def pickI (wo ne pr : Row) (rule bu gu money : Int32) : Int32 := (pickA wo ne pr rule bu gu (thr ne bu gu) money 10).1
theorem i_lt {a b : Int32} (h : ¬ a < b) : b ≤ a := Int32.not_lt.mp h
theorem i_le {a b : Int32} (h : ¬ a ≤ b) : b < a := Int32.not_le.mp h
theorem i_nlt {a b : Int32} (h : b ≤ a) : ¬ a < b := Int32.not_lt.mpr h
theorem i_nle {a b : Int32} (h : b < a) : ¬ a ≤ b := Int32.not_le.mpr h
/-- an int within, by its number -/
theorem i_ix {x : Int32} {n : Nat} (h0 : 0 ≤ x) (h1 : x < nI n) (hn : n < 2 ^ 31) : ∃ k : Nat, k < n ∧ x = nI k := by
  obtain ⟨j, hj, rfl⟩ := nI_of (i_nlt h0)
  exact ⟨j, (nI_ltI hj hn).mp h1, rfl⟩
theorem i_ixe {x : Int32} {n : Nat} (h0 : 0 ≤ x) (h1 : x ≤ nI n) (hn : n < 2 ^ 31) : ∃ k : Nat, k ≤ n ∧ x = nI k := by
  obtain ⟨j, hj, rfl⟩ := nI_of (i_nlt h0)
  exact ⟨j, (nI_leI hj hn).mp h1, rfl⟩
theorem i_pred {n : Nat} (h : 1 ≤ n) : nI n - 1 = nI (n - 1) := pk_sub h
theorem i_has {a n : Nat} (h : a < n) (hn : n ≤ 10) : 0 ≤ nI a ∧ nI a ≤ nI n - 1 := by
  rw [i_pred (by omega)]
  exact ⟨nI_pos' (by omega), (nI_leI (by omega) (by omega)).mpr (by omega)⟩
theorem i_hasE {x : Int32} {n : Nat} (hn : n ≤ 10) (h1 : 1 ≤ n) (h : 0 ≤ x ∧ x ≤ nI n - 1) : ∃ k : Nat, k < n ∧ x = nI k := by
  rw [i_pred h1] at h
  obtain ⟨k, hk, rfl⟩ := i_ixe h.1 h.2 (by omega)
  exact ⟨k, by omega, rfl⟩

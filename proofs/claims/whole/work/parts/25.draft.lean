/-! sets by rising numbers, on naturals -/
def subN (s f : Nat) : Prop := ∀ i, s.testBit i = true → f.testBit i = true
/-- the next set within f: how many places are left, f, the set -/
def nx : Nat → Nat → Nat → Nat
  | 0, _, _ => 0
  | w + 1, f, s => if f % 2 = 1 ∧ s % 2 = 0 then s + 1 else 2 * nx w (f / 2) (s / 2)
theorem subN_half {s f : Nat} (h : subN s f) : subN (s / 2) (f / 2) := fun i hi => by
  rw [← Nat.testBit_add_one] at hi ⊢
  exact h (i + 1) hi
theorem subN_low {s f : Nat} (h : subN s f) : s % 2 = 1 → f % 2 = 1 := fun q => by
  have := h 0 (by rw [Nat.testBit_zero]; exact decide_eq_true q)
  rw [Nat.testBit_zero] at this
  exact of_decide_eq_true this
theorem subN_of {s f : Nat} (h0 : s % 2 = 1 → f % 2 = 1) (h : subN (s / 2) (f / 2)) : subN s f := fun i hi => by
  cases i with
  | zero =>
    rw [Nat.testBit_zero] at hi ⊢
    exact decide_eq_true (h0 (of_decide_eq_true hi))
  | succ i =>
    rw [Nat.testBit_add_one] at hi ⊢
    exact h i hi
theorem nx_least : ∀ (w f s u : Nat), subN s f → subN u f → s < u → u < 2 ^ w → nx w f s ≠ 0 ∧ nx w f s ≤ u
  | 0, f, s, u, _, _, h, hu => by simp at hu; omega
  | w + 1, f, s, u, hs, hu, h, hw => by
    unfold nx
    by_cases q : f % 2 = 1 ∧ s % 2 = 0
    · rw [if_pos q]
      omega
    · rw [if_neg q]
      have h1 := subN_low hu
      have h2 : s / 2 < u / 2 := by
        rcases Nat.lt_or_ge (s / 2) (u / 2) with z | z
        · exact z
        · exfalso
          have e : s / 2 = u / 2 := by omega
          have : u % 2 = 1 ∧ s % 2 = 0 := by omega
          exact q ⟨h1 this.1, this.2⟩
      have ih := nx_least w (f / 2) (s / 2) (u / 2) (subN_half hs) (subN_half hu) h2 (by rw [Nat.pow_succ] at hw; omega)
      omega
theorem nx_next : ∀ (w f s : Nat), subN s f → nx w f s ≠ 0 → s < nx w f s ∧ subN (nx w f s) f
  | 0, f, s, _, h => absurd rfl h
  | w + 1, f, s, hs, h => by
    unfold nx at h ⊢
    by_cases q : f % 2 = 1 ∧ s % 2 = 0
    · rw [if_pos q]
      refine ⟨by omega, subN_of (fun _ => q.1) ?_⟩
      rw [show (s + 1) / 2 = s / 2 by omega]
      exact subN_half hs
    · rw [if_neg q] at h ⊢
      have ih := nx_next w (f / 2) (s / 2) (subN_half hs) (by omega)
      refine ⟨by omega, subN_of (by omega) ?_⟩
      rw [show 2 * nx w (f / 2) (s / 2) / 2 = nx w (f / 2) (s / 2) by omega]
      exact ih.2
theorem subN_le {s f : Nat} (h : subN s f) : s ≤ f := by
  have e : s &&& f = s := Nat.eq_of_testBit_eq fun i => by
    rw [Nat.testBit_and]
    cases q : s.testBit i
    · rfl
    · rw [h i q]; rfl
  rw [← e]
  exact Nat.and_le_right
theorem bit_halves {a b : Nat} (h0 : a % 2 = b % 2) (h1 : a / 2 = b / 2) : a = b := by omega
theorem and_low (a b : Nat) : (a &&& b) % 2 = if a % 2 = 1 ∧ b % 2 = 1 then 1 else 0 := by
  have := @Nat.and_mod_two_eq_one a b
  split
  · rename_i h; exact this.mpr h
  · rename_i h
    have : ¬ (a &&& b) % 2 = 1 := fun q => h (this.mp q)
    omega
theorem or_low (a b : Nat) : (a ||| b) % 2 = if a % 2 = 1 ∨ b % 2 = 1 then 1 else 0 := by
  have := @Nat.or_mod_two_eq_one a b
  split
  · rename_i h; exact this.mpr h
  · rename_i h
    have : ¬ (a ||| b) % 2 = 1 := fun q => h (this.mp q)
    omega
theorem nx_bits : ∀ (w f s : Nat), f < 2 ^ w → subN s f → ((s ||| (2 ^ w - 1 - f)) + 1) % 2 ^ w &&& f = nx w f s
  | 0, f, s, hf, hs => by
    have : f = 0 := by simp at hf; omega
    subst this
    simp [nx]
  | w + 1, f, s, hf, hs => by
    have hp : 2 ^ (w + 1) = 2 * 2 ^ w := by rw [Nat.pow_succ, Nat.mul_comm]
    have hf2 : f / 2 < 2 ^ w := by omega
    have ih := nx_bits w (f / 2) (s / 2) hf2 (subN_half hs)
    have hpos : 0 < 2 ^ w := Nat.pow_pos (by decide)
    generalize hc : 2 ^ (w + 1) - 1 - f = c
    have hc2 : c / 2 = 2 ^ w - 1 - f / 2 := by omega
    have hc0 : c % 2 = 1 - f % 2 := by omega
    have hA2 : (s ||| c) / 2 = s / 2 ||| (2 ^ w - 1 - f / 2) := by rw [Nat.or_div_two, hc2]
    have hA0 := or_low s c
    have hlow := subN_low hs
    unfold nx
    by_cases q : f % 2 = 1 ∧ s % 2 = 0
    · rw [if_pos q]
      have hA : (s ||| c) % 2 = 0 := by rw [hA0, if_neg (by omega)]
      have hlt : (s ||| c) < 2 ^ (w + 1) := Nat.or_lt_two_pow (by have := subN_le hs; omega) (by omega)
      rw [Nat.mod_eq_of_lt (by omega)]
      apply bit_halves
      · rw [and_low, if_pos (by omega)]; omega
      · rw [Nat.and_div_two, show ((s ||| c) + 1) / 2 = (s ||| c) / 2 by omega, hA2, show (s + 1) / 2 = s / 2 by omega]
        refine Nat.eq_of_testBit_eq fun i => ?_
        rw [Nat.testBit_and, Nat.testBit_or, show 2 ^ w - 1 - f / 2 = 2 ^ w - (f / 2 + 1) by omega, Nat.testBit_two_pow_sub_succ hf2]
        have := subN_half hs i
        cases z : (s / 2).testBit i
        · cases y : (f / 2).testBit i
          · rfl
          · simp
        · rw [this z]; rfl
    · rw [if_neg q]
      have hA : (s ||| c) % 2 = 1 := by rw [hA0, if_pos (by omega)]
      have e : ((s ||| c) + 1) % 2 ^ (w + 1) = 2 * (((s ||| c) / 2 + 1) % 2 ^ w) := by
        rw [hp, show (s ||| c) + 1 = 2 * ((s ||| c) / 2 + 1) by omega, Nat.mul_mod_mul_left]
        rw [show (2 * ((s ||| c) / 2 + 1)) / 2 = (s ||| c) / 2 + 1 by omega]
      rw [e, hA2]
      apply bit_halves
      · rw [and_low, if_neg (by omega)]; omega
      · rw [Nat.and_div_two, show (2 * ((s / 2 ||| (2 ^ w - 1 - f / 2)) + 1) % 2 ^ w) / 2 = (2 * ((s / 2 ||| (2 ^ w - 1 - f / 2)) + 1) % 2 ^ w) / 2 from rfl]
        rw [show (2 * (((s / 2 ||| (2 ^ w - 1 - f / 2)) + 1) % 2 ^ w)) / 2 = ((s / 2 ||| (2 ^ w - 1 - f / 2)) + 1) % 2 ^ w by omega, ih]
        omega
theorem tn_nI {m : Nat} (h : m < 2 ^ 32) : (nI m).toBitVec.toNat = m := pk_tn h
theorem nextW_nat {f s : Nat} (hf : f < 1024) (hs : subN s f) : nextW (nI f) (nI s) = nI (nx 32 f s) := by
  have hs2 := subN_le hs
  apply Int32.toBitVec_inj.mp
  apply BitVec.eq_of_toNat_eq
  have hle : nx 32 f s < 2 ^ 32 := by
    rw [← nx_bits 32 f s (by omega) hs]
    exact Nat.lt_of_le_of_lt Nat.and_le_right (by omega)
  rw [pk_tn hle, ← nx_bits 32 f s (by omega) hs]
  unfold nextW
  rw [Int32.toBitVec_and, BitVec.toNat_and, Int32.toBitVec_add, BitVec.toNat_add, Int32.toBitVec_or, BitVec.toNat_or, pk_tn (by omega), pk_tn (by omega)]
  have e : (nI f ^^^ (-1)).toBitVec.toNat = 2 ^ 32 - 1 - f := by
    have e1 : (nI f ^^^ (-1)).toBitVec = ~~~ (nI f).toBitVec := by
      rw [Int32.toBitVec_xor, ← BitVec.xor_allOnes]
      rfl
    rw [e1, BitVec.toNat_not, pk_tn (by omega)]
  rw [e]
  rfl
/-- behind a set that is too dear: the last one that holds it -/
theorem last_nat : ∀ s, s < 1024 → s ≠ 0 → ∃ p, p < 10 ∧ lastAb (nI s) = nI (s ||| (2 ^ p - 1)) ∧ (s ||| (2 ^ p - 1)) = s + (2 ^ p - 1) ∧ s % 2 ^ p = 0 := by decide +kernel
theorem last_sub {s u p : Nat} (hm : s % 2 ^ p = 0) (h1 : s ≤ u) (h2 : u ≤ s + (2 ^ p - 1)) : subN s u := fun i hi => by
  have hp : 0 < 2 ^ p := Nat.pow_pos (by decide)
  have e : u / 2 ^ p = s / 2 ^ p := by
    have hs := Nat.div_add_mod s (2 ^ p)
    rw [hm, Nat.add_zero] at hs
    have hu := Nat.div_add_mod u (2 ^ p)
    have hu2 := Nat.mod_lt u hp
    rcases Nat.lt_trichotomy (u / 2 ^ p) (s / 2 ^ p) with z | z | z
    · exfalso
      have := Nat.mul_le_mul_left (2 ^ p) (show u / 2 ^ p + 1 ≤ s / 2 ^ p by omega)
      rw [Nat.mul_add] at this
      omega
    · exact z
    · exfalso
      have := Nat.mul_le_mul_left (2 ^ p) (show s / 2 ^ p + 1 ≤ u / 2 ^ p by omega)
      rw [Nat.mul_add] at this
      omega
  rcases Nat.lt_or_ge i p with z | z
  · exfalso
    have := Nat.testBit_mod_two_pow s p i
    rw [hm, Nat.zero_testBit, decide_eq_true z, hi] at this
    cases this
  · obtain ⟨j, rfl⟩ : ∃ j, i = j + p := ⟨i - p, by omega⟩
    rw [← Nat.testBit_div_two_pow] at hi ⊢
    rw [e]
    exact hi
/-- the cut of that last one to f -/
theorem last_cut {s f p : Nat} (hs : subN s f) (he : (s ||| (2 ^ p - 1)) = s + (2 ^ p - 1)) : s ≤ (s ||| (2 ^ p - 1)) &&& f ∧ (s ||| (2 ^ p - 1)) &&& f ≤ s + (2 ^ p - 1) ∧ subN ((s ||| (2 ^ p - 1)) &&& f) f := by
  refine ⟨subN_le fun i hi => ?_, by rw [← he]; exact Nat.and_le_left, fun i hi => ?_⟩
  · rw [Nat.testBit_and, Nat.testBit_or, hi, hs i hi]; rfl
  · rw [Nat.testBit_and] at hi
    cases q : f.testBit i
    · rw [q, Bool.and_false] at hi; cases hi
    · rfl
theorem nextW_cut (f s : Int32) : nextW f s = nextW f (s &&& f) := by
  unfold nextW
  have e : s ||| (f ^^^ (-1)) = s &&& f ||| (f ^^^ (-1)) := tb_ext fun i hi => by
    rw [tb_or, tb_or, tb_and, tb_not _ hi]
    cases tb s i <;> cases tb f i <;> rfl
  rw [e]
theorem nI_and {a b : Nat} (ha : a < 2 ^ 32) (hb : b < 2 ^ 32) : nI a &&& nI b = nI (a &&& b) := by
  apply Int32.toBitVec_inj.mp
  apply BitVec.eq_of_toNat_eq
  rw [Int32.toBitVec_and, BitVec.toNat_and, pk_tn ha, pk_tn hb, pk_tn (Nat.lt_of_le_of_lt Nat.and_le_left ha)]
/-- what a set costs -/
def costN (p : Nat → Nat) (s : Nat) : Nat → Nat
  | 0 => 0
  | k + 1 => costN p s k + if s.testBit k = true then p k else 0
theorem costN_le {p : Nat → Nat} {n : Nat} (hp : ∀ k, k < n → p k ≤ 9) (s : Nat) : ∀ k, k ≤ n → costN p s k ≤ 9 * k
  | 0, _ => Nat.le_refl _
  | k + 1, h => by
    have := costN_le hp s k (by omega)
    have := hp k (by omega)
    show costN p s k + (if s.testBit k = true then p k else 0) ≤ 9 * (k + 1)
    split <;> omega
theorem costN_mono (p : Nat → Nat) {s u : Nat} (h : subN s u) : ∀ k, costN p s k ≤ costN p u k
  | 0 => Nat.le_refl _
  | k + 1 => by
    have ih := costN_mono p h k
    show costN p s k + (if s.testBit k = true then p k else 0) ≤ costN p u k + (if u.testBit k = true then p k else 0)
    by_cases q : s.testBit k = true
    · rw [if_pos q, if_pos (h k q)]; omega
    · rw [if_neg q]; omega
theorem costN_0 (p : Nat → Nat) : ∀ k, costN p 0 k = 0
  | 0 => rfl
  | k + 1 => by
    show costN p 0 k + (if (0 : Nat).testBit k = true then p k else 0) = 0
    rw [costN_0 p k, Nat.zero_testBit, if_neg (by decide)]
theorem sum_nat {row : Row} {p : Nat → Nat} {n : Nat} (hn : n ≤ 10) (hp : ∀ k, k < n → row k = nI (p k)) {s : Nat} (hs : s < 2 ^ 31) : ∀ k, k ≤ n → sumM row (nI s) k = nI (costN p s k)
  | 0, _ => rfl
  | k + 1, h => by
    show sumM row (nI s) k + bt (nI s) (nI k) * row k = nI (costN p s k + if s.testBit k = true then p k else 0)
    rw [sum_nat hn hp hs k (by omega), bt_tb _ (by omega), tb_nI hs, hp k (by omega)]
    by_cases q : s.testBit k = true
    · rw [if_pos q, if_pos q, Int32.one_mul, nI_add]
    · rw [if_neg q, if_neg q, Int32.zero_mul, Int32.add_zero, Nat.add_zero]
/-! the search: the class's recursion beside the reference's loop -/
abbrev kLk (S : Km) : Int32 := S.2.2.2.2.2.1
abbrev kSp (S : Km) : Bool := S.2.2.2.2.2.2.1
abbrev kBs (S : Km) : Int32 := S.2.2.2.2.2.2.2.1
abbrev kBo (S : Km) : Int32 := S.2.2.2.2.2.2.2.2.1
abbrev kTr (S : Km) : Row := S.2.2.2.2.2.2.2.2.2.1
abbrev kFa (S : Km) : Row := S.2.2.2.2.2.2.2.2.2.2.1
abbrev kGa (S : Km) : Row := S.2.2.2.2.2.2.2.2.2.2.2.1
abbrev kLa (S : Km) : Row := S.2.2.2.2.2.2.2.2.2.2.2.2.1
abbrev kBz (S : Km) : Row := S.2.2.2.2.2.2.2.2.2.2.2.2.2
def Goes (n : Nat) (bd : Int32) (ow : Row) (ke : Bool) (pr ne wo pz : Row) (X Y : Km) : Prop := ∃ N : Nat, itM n bd ow ke pr ne wo pz X N = Y ∧ ∀ k, k < N → ¬ doneM (itM n bd ow ke pr ne wo pz X k) ∧ okM (itM n bd ow ke pr ne wo pz X k)
section GOES
variable {n : Nat} {bd : Int32} {ow : Row} {ke : Bool} {pr ne wo pz : Row} {X Y Z S : Km}
theorem Goes.refl (X : Km) : Goes n bd ow ke pr ne wo pz X X := ⟨0, rfl, fun k h => absurd h (Nat.not_lt_zero _)⟩
theorem itM_add (X : Km) (a : Nat) : ∀ b, itM n bd ow ke pr ne wo pz X (a + b) = itM n bd ow ke pr ne wo pz (itM n bd ow ke pr ne wo pz X a) b
  | 0 => rfl
  | b + 1 => by
    show stepM n bd ow ke pr ne wo pz (itM n bd ow ke pr ne wo pz X (a + b)) = stepM n bd ow ke pr ne wo pz (itM n bd ow ke pr ne wo pz (itM n bd ow ke pr ne wo pz X a) b)
    rw [itM_add X a b]
theorem Goes.trans (h1 : Goes n bd ow ke pr ne wo pz X Y) (h2 : Goes n bd ow ke pr ne wo pz Y Z) : Goes n bd ow ke pr ne wo pz X Z := by
  obtain ⟨a, e1, p1⟩ := h1
  obtain ⟨b, e2, p2⟩ := h2
  refine ⟨a + b, by rw [itM_add, e1, e2], fun k hk => ?_⟩
  rcases Nat.lt_or_ge k a with q | q
  · exact p1 k q
  · obtain ⟨j, rfl⟩ : ∃ j, k = a + j := ⟨k - a, by omega⟩
    rw [itM_add, e1]
    exact p2 j (by omega)
theorem Goes.seekTo (h : Goes n bd ow ke pr ne wo pz X Y) (hd : doneM Y) : SeekTo n bd ow ke pr ne wo pz X Y := by
  obtain ⟨N, e, p⟩ := h
  refine ⟨N, e.symm, by rw [e]; exact hd, fun k hk => ?_⟩
  rcases Nat.lt_or_ge k N with q | q
  · exact (p k q).2
  · exfalso
    obtain ⟨j, rfl⟩ : ∃ j, k = N + j := ⟨k - N, by omega⟩
    exact hk (by rw [itM_stop (by rw [e]; exact hd) j, e]; exact hd)
theorem SeekTo.same (h1 : SeekTo n bd ow ke pr ne wo pz X Y) (h2 : SeekTo n bd ow ke pr ne wo pz X Z) : Y = Z := by
  obtain ⟨a, e1, d1, -⟩ := h1
  obtain ⟨b, e2, d2, -⟩ := h2
  rcases Nat.le_total a b with q | q
  · obtain ⟨j, rfl⟩ : ∃ j, b = a + j := ⟨b - a, by omega⟩
    rw [e1, e2, itM_stop d1 j]
  · obtain ⟨j, rfl⟩ : ∃ j, a = b + j := ⟨a - b, by omega⟩
    rw [e1, e2, itM_stop d2 j]
theorem Goes.one {t : Nat} (hT : S.1 = t) (h1 : 1 ≤ t) (h8 : t ≤ 8) (hs : kSp S = false) (hn : ¬ kTr S t < 0)
    (he : stepK n bd ow ke pr ne wo pz t S.2.2.2.2.1 (kLk S) false (kBs S) (kBo S) (kTr S) (kFa S) (kGa S) (kLa S) (kBz S) = Y) : Goes n bd ow ke pr ne wo pz S Y := by
  have h0 : ¬ S.1 = 0 := by omega
  have hsp : ¬ S.2.2.2.2.2.2.1 = true := by
    rw [show S.2.2.2.2.2.2.1 = false from hs]
    exact Bool.false_ne_true
  refine ⟨1, ?_, fun k hk => ?_⟩
  · show stepM n bd ow ke pr ne wo pz S = Y
    unfold stepM
    rw [if_neg h0, if_neg hsp, ← he, show S.2.2.2.2.2.2.1 = false from hs, hT]
  · have : k = 0 := by omega
    subst this
    refine ⟨fun q => q.elim h0 hsp, by show S.1 ≤ 8; omega, ?_⟩
    show ¬ kTr S S.1 < 0
    rw [hT]
    exact hn
end GOES
theorem upd_upd (f : Row) (k : Nat) (x y : Int32) : upd (upd f k x) k y = upd f k y := by
  funext j
  by_cases h : j = k
  · subst h; rw [pk_us, pk_us]
  · rw [pk_un h, pk_un h, pk_un h]
/-- what a goOn lays -/
def goV (v : Nat) : Int32 := if v = 0 then 1024 else nI v
theorem goF_nat {n t fr u : Nat} {tr fa ga : Row} (hf : freeI (nI n) (fa t) (ga t) = nI fr) (hfr : fr < 1024) (ht : tr t = nI u) (hu : subN u fr) : (if goN n t tr fa ga = 0 then 1024 else goN n t tr fa ga) = goV (nx 32 fr u) := by
  have e : goN n t tr fa ga = nI (nx 32 fr u) := by
    show nextW (freeI (nI n) (fa t) (ga t)) (tr t) = _
    rw [hf, ht, nextW_nat hfr hu]
  rw [e]
  unfold goV
  by_cases z : nx 32 fr u = 0
  · rw [if_pos z, z]; rfl
  · have : nx 32 fr u ≤ fr := subN_le (nx_next 32 fr u hu z).2
    rw [if_neg z, if_neg (nI_ne0 (by omega) (by omega))]
/-- the class's state beside the reference's -/
def SRel (b : Nat) (x : Ss) (S : Km) : Prop :=
  (∃ l, l ≤ b ∧ x.1 = nI l) ∧ kLk S = x.1 ∧ kSp S = x.2.2.2.1 ∧ kBs S = x.2.1 ∧ (x.2.1 = -1 ∨ ((∃ q, q ≤ 90 ∧ x.2.1 = nI q) ∧ kBo S = x.2.2.1 ∧ ∀ i, i < 8 → kBz S (i + 1) = x.2.2.2.2.2 i))
def LIn (n b t s fr m : Nat) (x : Ss) (S : Km) : Prop :=
  S.1 = t ∧ kSp S = false ∧ below n (kFa S t) ∧ kTr S t = nI s ∧ freeI (nI n) (kFa S t) (kGa S t) = nI fr ∧ fr ≤ allN n ∧ subN s fr ∧ kLa S t = nI m ∧ m ≤ 20 * t ∧ SRel b x S ∧ (∀ i, i + 1 < t → kTr S (i + 1) = x.2.2.2.2.1 i) ∧ (x.2.1 = -1 → s = 0 ∧ x.1 = nI (t - 1))
def LOut (n : Nat) (bd : Int32) (ow : Row) (ke : Bool) (pr ne wo pz : Row) (b t : Nat) (x X' : Ss) (S : Km) : Prop :=
  ∃ Y : Km, Goes n bd ow ke pr ne wo pz S Y ∧ SRel b X' Y ∧ X'.2.1 ≠ -1 ∧ (kSp Y = true ∨ (kSp Y = false ∧ Y.1 = t - 1 ∧ (∀ j, j < t → kFa Y j = kFa S j ∧ kGa Y j = kGa S j ∧ kLa Y j = kLa S j) ∧ (∀ i, i + 1 < t → X'.2.2.2.2.1 i = x.2.2.2.2.1 i) ∧ kTr Y (t - 1) = (if goN n (t - 1) (kTr S) (kFa S) (kGa S) = 0 then 1024 else goN n (t - 1) (kTr S) (kFa S) (kGa S)) ∧ ∀ j, j + 1 < t → kTr Y j = kTr S j))
section LEVELS
variable {n : Nat} {bd : Int32} {ow : Row} {ke : Bool} {pr ne wo pz : Row} {X Y Z S S1 : Km} {b t : Nat} {x x1 X' : Ss}
theorem LOut.back (ht : 1 ≤ t) (g : Goes n bd ow ke pr ne wo pz S S1) (hk : ∀ j, j < t → kFa S1 j = kFa S j ∧ kGa S1 j = kGa S j ∧ kLa S1 j = kLa S j) (htr : ∀ j, j < t → kTr S1 j = kTr S j) (hw : ∀ i, i + 1 < t → x1.2.2.2.2.1 i = x.2.2.2.2.1 i)
    (h : LOut n bd ow ke pr ne wo pz b t x1 X' S1) : LOut n bd ow ke pr ne wo pz b t x X' S := by
  obtain ⟨Y, g2, r, hne, h⟩ := h
  refine ⟨Y, g.trans g2, r, hne, h.imp id (fun ⟨h1, h2, h3, h4, h5, h6⟩ => ⟨h1, h2, fun j hj => ?_, fun i hi => (h4 i hi).trans (hw i hi), ?_, fun j hj => (h6 j hj).trans (htr j (by omega))⟩)⟩
  · obtain ⟨a1, a2, a3⟩ := h3 j hj
    obtain ⟨b1, b2, b3⟩ := hk j hj
    exact ⟨a1.trans b1, a2.trans b2, a3.trans b3⟩
  · have e : goN n (t - 1) (kTr S1) (kFa S1) (kGa S1) = goN n (t - 1) (kTr S) (kFa S) (kGa S) := by
      unfold goN
      rw [htr (t - 1) (by omega), (hk (t - 1) (by omega)).1, (hk (t - 1) (by omega)).2.1]
    rw [h5, e]
theorem lev_end (hn : n ≤ 10) (ht : 1 ≤ t) (h8 : t ≤ 8) (hT : S.1 = t) (hs : kSp S = false) (htr : kTr S t = 1024) (hr : SRel b x S) (hne : x.2.1 ≠ -1) : LOut n bd ow ke pr ne wo pz b t x x S := by
  have hall : ¬ (1024 : Int32) ≤ allI (nI n) := by
    rw [allI_nat hn, show (1024 : Int32) = nI 1024 from rfl, nI_leI (by omega) (by have := allN_le hn; omega)]
    have := allN_le hn
    omega
  refine ⟨(t - 1, kFa S t, kGa S t, kLa S t, S.2.2.2.2.1, kLk S, false, kBs S, kBo S, goF n (t - 1) (kTr S) (kFa S) (kGa S), kFa S, kGa S, kLa S, kBz S), Goes.one hT ht h8 hs (by rw [htr]; decide) (by rw [stepK, if_neg (by rw [htr]; exact hall)]), ⟨hr.1, hr.2.1, hs.symm.trans hr.2.2.1, hr.2.2.2.1, hr.2.2.2.2⟩, hne, Or.inr ⟨rfl, rfl, fun j _ => ⟨rfl, rfl, rfl⟩, fun i _ => rfl, ?_, fun j hj => ?_⟩⟩
  · show goF n (t - 1) (kTr S) (kFa S) (kGa S) (t - 1) = _
    unfold goF
    rw [pk_us]
  · show goF n (t - 1) (kTr S) (kFa S) (kGa S) j = _
    unfold goF
    rw [pk_un (by omega)]
end LEVELS
def KSame (S Y : Km) : Prop := kLk Y = kLk S ∧ kSp Y = kSp S ∧ kBs Y = kBs S ∧ kBo Y = kBo S ∧ kFa Y = kFa S ∧ kGa Y = kGa S ∧ kLa Y = kLa S ∧ kBz Y = kBz S
theorem KSame.rel {b : Nat} {x : Ss} {S Y : Km} (h : KSame S Y) (r : SRel b x S) : SRel b x Y := by
  obtain ⟨h1, h2, h3, h4, h5, h6, h7, h8⟩ := h
  obtain ⟨r1, r2, r3, r4, r5⟩ := r
  refine ⟨r1, h1.trans r2, h2.trans r3, h3.trans r4, r5.imp id (fun ⟨a, b, c⟩ => ⟨a, h4.trans b, fun i hi => ?_⟩)⟩
  rw [h8]
  exact c i hi
/-- sets that are too dear are passed over, one by one -/
theorem skip_sets {n : Nat} {bd : Int32} {ow : Row} {ke : Bool} {pr ne wo pz : Row} {t fr s L m : Nat} {p : Nat → Nat} (hn : n ≤ 10) (ht : 1 ≤ t) (h8 : t ≤ 8) (hfr : fr ≤ allN n) (hL : subN L fr) (hm : m < 2 ^ 31)
    (hpz : ∀ j, j ≤ allN n → pz j = sumM pr (nI j) n) (hp : ∀ k, k < n → pr k = nI (p k)) (hp9 : ∀ k, k < n → p k ≤ 9) (hc : ∀ u, s ≤ u → u ≤ L → m < costN p u n) :
    ∀ (d u : Nat) (S : Km), L - u ≤ d → S.1 = t → kSp S = false → kTr S t = nI u → subN u fr → s ≤ u → u ≤ L → freeI (nI n) (kFa S t) (kGa S t) = nI fr → kLa S t = nI m →
      ∃ Y : Km, Goes n bd ow ke pr ne wo pz S Y ∧ Y.1 = t ∧ KSame S Y ∧ kTr Y = upd (kTr S) t (goV (nx 32 fr L))
  | d, u, S, hd, hT, hs, htr, hu, hsu, huL, hf, hla => by
    have hall := allN_le hn
    have hu2 := subN_le hu
    have hc9 := costN_le hp9 u n (Nat.le_refl _)
    have hcu := hc u hsu huL
    have g : Goes n bd ow ke pr ne wo pz S (t, kFa S t, kGa S t, kLa S t, S.2.2.2.2.1, kLk S, false, kBs S, kBo S, goF n t (kTr S) (kFa S) (kGa S), kFa S, kGa S, kLa S, kBz S) := by
      refine Goes.one hT ht h8 hs (by rw [htr]; exact nI_pos (by omega)) ?_
      rw [stepK, if_pos (by rw [htr, allI_nat hn]; exact nI_le (by omega) (by omega)), if_neg (by rw [htr, nI_clamp (by omega), hpz u (by omega), sum_nat hn hp (by omega) n (Nat.le_refl _), hla]; exact nI_ge hcu (by omega))]
    have hgo : goF n t (kTr S) (kFa S) (kGa S) = upd (kTr S) t (goV (nx 32 fr u)) := by
      unfold goF
      rw [goF_nat hf (by omega) htr hu]
    rcases Nat.lt_or_ge u L with z | z
    · have h1 := nx_least 32 fr u L hu hL z (by have := subN_le hL; omega)
      have h2 := nx_next 32 fr u hu h1.1
      cases d with
      | zero => omega
      | succ d =>
        obtain ⟨Y, g2, y1, y2, y3⟩ := skip_sets hn ht h8 hfr hL hm hpz hp hp9 hc d (nx 32 fr u) (t, kFa S t, kGa S t, kLa S t, S.2.2.2.2.1, kLk S, false, kBs S, kBo S, goF n t (kTr S) (kFa S) (kGa S), kFa S, kGa S, kLa S, kBz S) (by omega) rfl rfl
          (by show goF n t (kTr S) (kFa S) (kGa S) t = _; rw [hgo, pk_us]; unfold goV; rw [if_neg h1.1]) h2.2 (by omega) h1.2 hf hla
        refine ⟨Y, g.trans g2, y1, ?_, ?_⟩
        · obtain ⟨q1, q2, q3, q4, q5, q6, q7, q8⟩ := y2
          exact ⟨q1, q2.trans hs.symm, q3, q4, q5, q6, q7, q8⟩
        · rw [y3]
          show upd (goF n t (kTr S) (kFa S) (kGa S)) t _ = _
          rw [hgo, upd_upd]
    · have : u = L := by omega
      subst this
      exact ⟨_, g, rfl, ⟨rfl, hs.symm, rfl, rfl, rfl, rfl, rfl, rfl⟩, hgo⟩
theorem seekL_spent {lk : Int32 → Int32 → Ss → Ss} {pr : Row} {free money : Int32} {x : Ss} (h : x.2.2.2.1 = true) : ∀ (F : Nat) (set : Int32), seekL lk pr free money F set x = x
  | 0, _ => rfl
  | F + 1, set => by rw [seekL, if_pos h]
/-- the burning on without more guards -/
theorem judge_end {n : Nat} {ne ne' : Row} (hn : n ≤ 10) (hne : ∀ k, k < n → ne k = ne' k) (hbl : ∀ k, k < n → below n (ne' k)) (gu : Int32) : ∀ (k' k o : Nat) (f : Int32) (e : Nat × Int32), below n f → n - cntB f n < k → endL n ne' gu k' o f = some e → judgeL ne gu k o f = e ∧ below n e.2 ∧ nearM n ne' e.2 gu = 0
  | 0, _, _, _, _, _, _, h => by cases h
  | k' + 1, k, o, f, e, hf, hk, h => by
    obtain ⟨j, rfl⟩ : ∃ j, k = j + 1 := ⟨k - 1, by omega⟩
    rw [endL] at h
    rw [judgeL, thr_eq hn hne hf]
    by_cases q : nearM n ne' f gu = 0
    · rw [if_pos q] at h ⊢
      cases h
      exact ⟨rfl, hf, q⟩
    · rw [if_neg q] at h ⊢
      have h1 := near_more hn hbl q
      have h2 := cntB_le (f ||| nearM n ne' f gu) n
      exact judge_end hn hne hbl gu k' j (o + 1) _ e (below_or hf (below_thr hbl)) (by omega) h
theorem fill_nat {ow : Row} {o : Nat → Nat} (ho : ∀ t, 1 ≤ t → t ≤ 8 → ow t = nI (o t) ∧ o t ≤ 20) (ke : Bool) {t : Nat} (h1 : 1 ≤ t) (h8 : t ≤ 8) (m : Nat) : ∃ m', m' ≤ 20 + m ∧ fillM ow ke t (nI m) = nI m' := by
  unfold fillM
  have hz : (0 : Int32) = nI 0 := rfl
  cases ke with
  | true =>
    rw [if_pos rfl]
    split
    · exact ⟨m + o t, by have := (ho t h1 h8).2; omega, by rw [(ho t h1 h8).1, nI_add]⟩
    · exact ⟨m + o 8, by have := (ho 8 (by omega) (by omega)).2; omega, by rw [(ho 8 (by omega) (by omega)).1, nI_add]⟩
  | false =>
    rw [if_neg Bool.false_ne_true]
    split
    · exact ⟨o t, by have := (ho t h1 h8).2; omega, by rw [(ho t h1 h8).1, Int32.zero_add]⟩
    · exact ⟨o 8, by have := (ho 8 (by omega) (by omega)).2; omega, by rw [(ho 8 (by omega) (by omega)).1, Int32.zero_add]⟩
theorem saved_nat {wo : Row} {q : Nat → Nat} {n : Nat} (hn : n ≤ 10) (hq : ∀ k, k < n → wo k = nI (q k)) (hq9 : ∀ k, k < n → q k ≤ 9) (f : Int32) : ∃ Q, Q ≤ 90 ∧ savedM n wo f = nI Q := by
  obtain ⟨z, hz, e⟩ := small_of (below_and (y := f ^^^ (-1)) (below_all hn))
  have h2 : 2 ^ n ≤ 2 ^ 10 := Nat.pow_le_pow_right (by decide) hn
  refine ⟨costN q z n, by have := costN_le hq9 z n (Nat.le_refl _); omega, ?_⟩
  unfold savedM
  rw [e]
  exact sum_nat hn hq (by omega) n (Nat.le_refl _)
theorem set_below {n s : Nat} (h : s ≤ allN n) : below n (nI s) := fun i hi => by
  have hp : 0 < 2 ^ n := Nat.pow_pos (by decide)
  by_cases h32 : i < 32
  · by_cases hs : s < 2 ^ 31
    · rw [tb_nI hs]
      exact Nat.testBit_lt_two_pow (Nat.lt_of_lt_of_le (by unfold allN at h; omega) (Nat.pow_le_pow_right (by decide) hi))
    · exfalso
      have : 2 ^ n ≤ 2 ^ 31 := Nat.pow_le_pow_right (by decide) (by omega)
      unfold allN at h
      omega
  · exact tb_big (by omega)
theorem free_nat {n : Nat} (hn : n ≤ 10) (bu gu : Int32) : ∃ fr, fr ≤ allN n ∧ freeI (nI n) bu gu = nI fr := by
  obtain ⟨z, hz, e⟩ := small_of (n := n) (x := freeI (nI n) bu gu) (below_and (below_and (below_all hn)))
  exact ⟨z, by unfold allN; omega, e⟩
/-- what both sides rest on -/
def SHyp (n b : Nat) (pr pr' ne ne' wo wo' ow ow' : Row) (ke : Int32) (ke' : Bool) (bd : Int32) (pz : Row) (p q o : Nat → Nat) : Prop :=
  n ≤ 10 ∧ (∀ k, k < n → pr k = pr' k) ∧ (∀ k, k < n → ne k = ne' k) ∧ (∀ k, k < n → wo k = wo' k) ∧ (∀ k, k < n → below n (ne' k)) ∧ (∀ k, k < n → pr' k = nI (p k)) ∧ (∀ k, k < n → p k ≤ 9) ∧ (∀ k, k < n → wo' k = nI (q k)) ∧ (∀ k, k < n → q k ≤ 9) ∧
  (∀ t, t < 8 → ow t = ow' (t + 1)) ∧ (∀ t, 1 ≤ t → t ≤ 8 → ow' t = nI (o t) ∧ o t ≤ 20) ∧ (ke = 1 ↔ ke' = true) ∧ bd = nI b ∧ 50 ≤ b ∧ b ≤ 1000 ∧ (∀ j, j ≤ allN n → pz j = sumM pr' (nI j) n)
/-! the search, a level -/
theorem lev_in {n b : Nat} {pr pr' ne ne' wo wo' ow ow' : Row} {ke : Int32} {ke' : Bool} {bd : Int32} {pz : Row} {p q o : Nat → Nat} (H : SHyp n b pr pr' ne ne' wo wo' ow ow' ke ke' bd pz p q o) {t d : Nat} (ht : 1 ≤ t) (h8 : t ≤ 8) {bu gu : Int32}
    (rec : t < 8 → ∀ (fr m : Nat) (x : Ss) (S : Km), LIn n b (t + 1) 0 fr m x S → LOut n bd ow' ke' pr' ne' wo' pz b (t + 1) x (seekF (nI n) wo pr ne ow ke bd d (t + 1) (kFa S (t + 1)) (kGa S (t + 1)) (nI m) x) S) :
    ∀ (F s fr m : Nat) (x : Ss) (S : Km), kFa S t = bu → kGa S t = gu → LIn n b t s fr m x S → 1024 ≤ s + F → LOut n bd ow' ke' pr' ne' wo' pz b t x (seekL (fun set left x => lookF (seekF (nI n) wo pr ne ow ke bd d) (nI n) wo ne ow ke bd t bu gu set left x) pr (nI fr) (nI m) F (nI s) x) S := by
  obtain ⟨hn, hpr, hne, hwo, hbl, hp, hp9, hq, hq9, ho, hoN, hke, hbd, hb50, hb1000, hpz⟩ := H
  have hall := allN_le hn
  intro F
  induction F with
  | zero =>
    intro s fr m x S _ _ hin hF
    obtain ⟨-, -, -, -, -, h6, h7, -⟩ := hin
    have := subN_le h7
    omega
  | succ F ih =>
    intro s fr m x S hbu hgu hin hF
    obtain ⟨hT, hsp, hbel, htr, hfr, hfrn, hsub, hla, hm, hrel, hway, hneg⟩ := hin
    have hs2 := subN_le hsub
    have hbs : below n (nI s) := set_below (by omega)
    have hcost : sumM pr' (nI s) n = nI (costN p s n) := sum_nat hn hp (by omega) n (Nat.le_refl _)
    have hcost10 : sumI pr (nI s) 10 = nI (costN p s n) := by rw [sum_ten hn hpr hbs, hcost]
    have hc90 := costN_le hp9 s n (Nat.le_refl _)
    have hxs : ¬ x.2.2.2.1 = true := by
      rw [← hrel.2.2.1, hsp]
      exact Bool.false_ne_true
    -- going on behind a set
    have cont : ∀ (L : Nat) (x1 : Ss) (Y : Km), s ≤ L → subN L fr → Goes n bd ow' ke' pr' ne' wo' pz S Y → Y.1 = t → kSp Y = false → kTr Y t = goV (nx 32 fr L) → (∀ j, j ≤ t → kFa Y j = kFa S j ∧ kGa Y j = kGa S j ∧ kLa Y j = kLa S j) → (∀ j, j < t → kTr Y j = kTr S j) → (∀ i, i + 1 < t → x1.2.2.2.2.1 i = x.2.2.2.2.1 i) → SRel b x1 Y → x1.2.1 ≠ -1 →
        LOut n bd ow' ke' pr' ne' wo' pz b t x (if nI (nx 32 fr L) = 0 then x1 else seekL (fun set left x => lookF (seekF (nI n) wo pr ne ow ke bd d) (nI n) wo ne ow ke bd t bu gu set left x) pr (nI fr) (nI m) F (nI (nx 32 fr L)) x1) S := by
      intro L x1 Y hsL hL g y1 y2 y3 yk ytr yw yr yn
      by_cases z : nx 32 fr L = 0
      · rw [if_pos (by rw [z]; rfl)]
        refine LOut.back ht g (fun j hj => yk j (by omega)) ytr yw (lev_end hn ht h8 y1 y2 ?_ yr yn)
        rw [y3, goV, if_pos z]
      · have h1 := nx_next 32 fr L hL z
        have h2 := subN_le h1.2
        rw [if_neg (nI_ne0 (by omega) (by omega))]
        obtain ⟨k1, k2, k3⟩ := yk t (Nat.le_refl _)
        refine LOut.back ht g (fun j hj => yk j (by omega)) ytr yw (ih (nx 32 fr L) fr m x1 Y (k1.trans hbu) (k2.trans hgu) ⟨y1, y2, by rw [k1]; exact hbel, ?_, by rw [k1, k2]; exact hfr, hfrn, h1.2, k3.trans hla, hm, yr, fun i hi => ?_, fun w => absurd w yn⟩ (by omega))
        · rw [y3, goV, if_neg z]
        · rw [ytr (i + 1) hi, yw i hi]
          exact hway i hi
    have hfr1024 : fr < 1024 := by omega
    have hnext : nextW (nI fr) (nI s) = nI (nx 32 fr s) := nextW_nat hfr1024 hsub
    have hgo : goF n t (kTr S) (kFa S) (kGa S) = upd (kTr S) t (goV (nx 32 fr s)) := by
      unfold goF
      rw [goF_nat hfr hfr1024 htr hsub]
    have hrel0 := hrel
    obtain ⟨⟨l, hl, hxl⟩, hlk, hspE, hbsE, hrest⟩ := hrel
    have hfree : freeI (nI n) bu gu = nI fr := by rw [← hbu, ← hgu]; exact hfr
    rw [seekL, if_neg hxs, hcost10]
    by_cases hc : m < costN p s n
    · -- too dear
      have hs0 : s ≠ 0 := fun z => by
        rw [z, costN_0] at hc
        omega
      rw [if_pos (pk_sneg (by omega) hc)]
      obtain ⟨e0, hpp, e1, e2, e3⟩ := last_nat s (by omega) hs0
      obtain ⟨c1, c2, c3⟩ := last_cut hsub e2
      have c4 := subN_le c3
      have hp2 : 2 ^ e0 ≤ 2 ^ 10 := Nat.pow_le_pow_right (by decide) (by omega)
      have hnw : nextW (nI fr) (lastAb (nI s)) = nI (nx 32 fr ((s ||| (2 ^ e0 - 1)) &&& fr)) := by
        rw [e1, nextW_cut, nI_and (by rw [e2]; omega) (by omega), nextW_nat hfr1024 c3]
      rw [hnw]
      obtain ⟨Y, g, y1, y2, y3⟩ := skip_sets (bd := bd) (ow := ow') (ke := ke') (ne := ne') (wo := wo') (s := s) hn ht h8 hfrn c3 (show m < 2 ^ 31 by omega) hpz hp hp9 (fun u h1 h2 => Nat.lt_of_lt_of_le hc (costN_mono p (last_sub e3 h1 (by omega)) n)) _ s S (Nat.le_refl _) hT hsp htr hsub (Nat.le_refl _) c1 hfr hla
      have y2' := y2
      obtain ⟨q1, q2, q3, q4, q5, q6, q7, q8⟩ := y2
      refine cont _ x Y c1 c3 g y1 (q2.trans hsp) (by rw [y3, pk_us]) (fun j _ => ⟨by rw [q5], by rw [q6], by rw [q7]⟩) (fun j hj => by rw [y3, pk_un (by omega)]) (fun i _ => rfl) (y2'.rel hrel0) (fun w => hs0 (hneg w).1)
    · -- a look
      rw [if_neg (by rw [pk_sub (by omega)]; exact nI_pos (by omega)), pk_sub (by omega), hnext]
      show LOut n bd ow' ke' pr' ne' wo' pz b t x (if nI (nx 32 fr s) = 0 then lookF (seekF (nI n) wo pr ne ow ke bd d) (nI n) wo ne ow ke bd t bu gu (nI s) (nI (m - costN p s n)) x else seekL _ pr (nI fr) (nI m) F (nI (nx 32 fr s)) (lookF (seekF (nI n) wo pr ne ow ke bd d) (nI n) wo ne ow ke bd t bu gu (nI s) (nI (m - costN p s n)) x)) S
      have hle : kTr S t ≤ allI (nI n) := by
        rw [htr, allI_nat hn]
        exact nI_le (by omega) (by omega)
      have hpay : pz (kTr S t).toNatClampNeg ≤ kLa S t := by
        rw [htr, nI_clamp (by omega), hpz s (by omega), hcost, hla]
        exact nI_le (by omega) (by omega)
      have hpos : ¬ kTr S t < 0 := by rw [htr]; exact nI_pos (by omega)
      unfold lookF
      by_cases hl2 : l < b
      · have hlt : x.1 < bd := by
          rw [hxl, hbd]
          exact nI_lt hl2 (by omega)
        have hlkb : ¬ kLk S = bd := by
          rw [hlk, hxl, hbd, nI_eq (by omega) (by omega)]
          omega
        have hl1 : x.1 + 1 = nI (l + 1) := by rw [hxl, nI_1]
        rw [if_pos hlt]
        have hbel' : below n bu := by rw [← hbu]; exact hbel
        rw [thr_eq hn hne hbel']
        by_cases hdn : ¬ nearM n ne' bu (gu ||| nI s) = 0 ∧ t < 8
        · rw [if_pos hdn]
          obtain ⟨m', hm', hfm⟩ := fill_nat hoN ke' (show 1 ≤ t + 1 by omega) (show t + 1 ≤ 8 by omega) (m - costN p s n)
          obtain ⟨fr', hfr', efr⟩ := free_nat hn (bu ||| nearM n ne' bu (gu ||| nI s)) (gu ||| nI s)
          rw [fill_eq ho hke (show 1 ≤ t + 1 by omega), hfm]
          have g : Goes n bd ow' ke' pr' ne' wo' pz S (t + 1, bu ||| nearM n ne' bu (gu ||| nI s), gu ||| nI s, nI m', S.2.2.2.2.1 + nI (costN p s n), kLk S + 1, false, kBs S, kBo S, upd (kTr S) (t + 1) 0, upd (kFa S) (t + 1) (bu ||| nearM n ne' bu (gu ||| nI s)), upd (kGa S) (t + 1) (gu ||| nI s), upd (kLa S) (t + 1) (nI m'), kBz S) := by
            refine Goes.one hT ht h8 hsp hpos ?_
            rw [stepK, if_pos hle, if_pos hpay, if_neg hlkb, if_pos (by rw [hbu, hgu, htr]; exact hdn), hbu, hgu, htr, hla, hcost, pk_sub (by omega), hfm]
          have r := rec hdn.2 fr' m' (x.1 + 1, x.2.1, x.2.2.1, x.2.2.2.1, upd x.2.2.2.2.1 (t - 1) (nI s), x.2.2.2.2.2) _ (⟨rfl, rfl, by show below n (upd (kFa S) (t + 1) _ (t + 1)); rw [pk_us]; exact below_or hbel' (below_thr hbl), by show upd (kTr S) (t + 1) 0 (t + 1) = _; rw [pk_us]; rfl, by show freeI (nI n) (upd (kFa S) (t + 1) _ (t + 1)) (upd (kGa S) (t + 1) _ (t + 1)) = _; rw [pk_us, pk_us]; exact efr, hfr', fun i hi => by rw [Nat.zero_testBit] at hi; cases hi, by show upd (kLa S) (t + 1) _ (t + 1) = _; rw [pk_us], by omega, ⟨⟨l + 1, by omega, hl1⟩, by show kLk S + 1 = x.1 + 1; rw [hlk], by show false = x.2.2.2.1; rw [← hspE, hsp], hbsE, hrest⟩, fun i hi => by
              show upd (kTr S) (t + 1) 0 (i + 1) = upd x.2.2.2.2.1 (t - 1) (nI s) i
              rw [pk_un (by omega)]
              by_cases z : i = t - 1
              · rw [z, pk_us, show t - 1 + 1 = t by omega, htr]
              · rw [pk_un z]
                exact hway i (by omega), fun w => ⟨rfl, by
              show x.1 + 1 = nI (t + 1 - 1)
              rw [(hneg w).2, nI_1, show t - 1 + 1 = t + 1 - 1 by omega]⟩⟩ : LIn n b (t + 1) 0 fr' m' (x.1 + 1, x.2.1, x.2.2.1, x.2.2.2.1, upd x.2.2.2.2.1 (t - 1) (nI s), x.2.2.2.2.2) (t + 1, bu ||| nearM n ne' bu (gu ||| nI s), gu ||| nI s, nI m', S.2.2.2.2.1 + nI (costN p s n), kLk S + 1, false, kBs S, kBo S, upd (kTr S) (t + 1) 0, upd (kFa S) (t + 1) (bu ||| nearM n ne' bu (gu ||| nI s)), upd (kGa S) (t + 1) (gu ||| nI s), upd (kLa S) (t + 1) (nI m'), kBz S))
          rw [show kFa (t + 1, bu ||| nearM n ne' bu (gu ||| nI s), gu ||| nI s, nI m', S.2.2.2.2.1 + nI (costN p s n), kLk S + 1, false, kBs S, kBo S, upd (kTr S) (t + 1) 0, upd (kFa S) (t + 1) (bu ||| nearM n ne' bu (gu ||| nI s)), upd (kGa S) (t + 1) (gu ||| nI s), upd (kLa S) (t + 1) (nI m'), kBz S) (t + 1) = bu ||| nearM n ne' bu (gu ||| nI s) from pk_us, show kGa (t + 1, bu ||| nearM n ne' bu (gu ||| nI s), gu ||| nI s, nI m', S.2.2.2.2.1 + nI (costN p s n), kLk S + 1, false, kBs S, kBo S, upd (kTr S) (t + 1) 0, upd (kFa S) (t + 1) (bu ||| nearM n ne' bu (gu ||| nI s)), upd (kGa S) (t + 1) (gu ||| nI s), upd (kLa S) (t + 1) (nI m'), kBz S) (t + 1) = gu ||| nI s from pk_us] at r
          generalize seekF (nI n) wo pr ne ow ke bd d (t + 1) (bu ||| nearM n ne' bu (gu ||| nI s)) (gu ||| nI s) (nI m') (x.1 + 1, x.2.1, x.2.2.1, x.2.2.2.1, upd x.2.2.2.2.1 (t - 1) (nI s), x.2.2.2.2.2) = x2 at r ⊢
          obtain ⟨Y2, g2, r2, n2, h2⟩ := r
          rcases h2 with hsp2 | ⟨hsp2, hT2, hk2, hw2, htr2, htr3⟩
          · have hx2 : x2.2.2.2.1 = true := by rw [← r2.2.2.1]; exact hsp2
            have e : (if nI (nx 32 fr s) = 0 then x2 else seekL (fun set left x => lookF (seekF (nI n) wo pr ne ow ke bd d) (nI n) wo ne ow ke bd t bu gu set left x) pr (nI fr) (nI m) F (nI (nx 32 fr s)) x2) = x2 := by
              split
              · rfl
              · exact seekL_spent hx2 _ _
            show LOut n bd ow' ke' pr' ne' wo' pz b t x (if nI (nx 32 fr s) = 0 then x2 else seekL (fun set left x => lookF (seekF (nI n) wo pr ne ow ke bd d) (nI n) wo ne ow ke bd t bu gu set left x) pr (nI fr) (nI m) F (nI (nx 32 fr s)) x2) S
            rw [e]
            exact ⟨Y2, g.trans g2, r2, n2, Or.inl hsp2⟩
          · refine cont s x2 Y2 (Nat.le_refl _) hsub (g.trans g2) (by omega) hsp2 ?_ (fun j hj => ?_) (fun j hj => ?_) (fun i hi => ?_) r2 n2
            · rw [show t + 1 - 1 = t by omega] at htr2
              rw [htr2]
              have e : goN n t (upd (kTr S) (t + 1) 0) (upd (kFa S) (t + 1) (bu ||| nearM n ne' bu (gu ||| nI s))) (upd (kGa S) (t + 1) (gu ||| nI s)) = goN n t (kTr S) (kFa S) (kGa S) := by
                unfold goN
                rw [pk_un (by omega), pk_un (by omega), pk_un (by omega)]
              show (if goN n t (upd (kTr S) (t + 1) 0) (upd (kFa S) (t + 1) (bu ||| nearM n ne' bu (gu ||| nI s))) (upd (kGa S) (t + 1) (gu ||| nI s)) = 0 then (1024 : Int32) else goN n t (upd (kTr S) (t + 1) 0) (upd (kFa S) (t + 1) (bu ||| nearM n ne' bu (gu ||| nI s))) (upd (kGa S) (t + 1) (gu ||| nI s))) = _
              rw [e, goF_nat hfr hfr1024 htr hsub]
            · obtain ⟨a1, a2, a3⟩ := hk2 j (by omega)
              refine ⟨a1.trans ?_, a2.trans ?_, a3.trans ?_⟩
              · show upd (kFa S) (t + 1) _ j = _
                rw [pk_un (by omega)]
              · show upd (kGa S) (t + 1) _ j = _
                rw [pk_un (by omega)]
              · show upd (kLa S) (t + 1) _ j = _
                rw [pk_un (by omega)]
            · refine (htr3 j (by omega)).trans ?_
              show upd (kTr S) (t + 1) 0 j = _
              rw [pk_un (by omega)]
            · refine (hw2 i (by omega)).trans ?_
              show upd x.2.2.2.2.1 (t - 1) (nI s) i = _
              rw [pk_un (by omega)]
        · rw [if_neg hdn]
          obtain ⟨e, he⟩ := endOK hn hbl (gu ||| nI s) t bu
          obtain ⟨j1, j2, j3⟩ := judge_end hn hne hbl (gu ||| nI s) 33 (20 - t) t bu e hbel' (by omega) he
          obtain ⟨Q, hQ, eQ⟩ := saved_nat hn hq hq9 e.2
          unfold judgeF
          rw [j1, saved_eq hn hwo, eQ]
          have hend : endL n ne' (kGa S t ||| kTr S t) 33 t (kFa S t) = some e := by rw [hgu, htr, hbu]; exact he
          have hstep : stepK n bd ow' ke' pr' ne' wo' pz t S.2.2.2.2.1 (kLk S) false (kBs S) (kBo S) (kTr S) (kFa S) (kGa S) (kLa S) (kBz S) = stepE n pr' ne' wo' t S.2.2.2.2.1 (kLk S) false (kBs S) (kBo S) (kTr S) (kFa S) (kGa S) (kLa S) (kBz S) := by
            rw [stepK, if_pos hle, if_pos hpay, if_neg hlkb, if_neg (by rw [hbu, hgu, htr]; exact hdn)]
          have hE : stepE n pr' ne' wo' t S.2.2.2.2.1 (kLk S) false (kBs S) (kBo S) (kTr S) (kFa S) (kGa S) (kLa S) (kBz S) = if kBs S < nI Q then
              (t, e.2, kGa S t ||| kTr S t, kLa S t - sumM pr' (kTr S t) n, S.2.2.2.2.1 + sumM pr' (kTr S t) n, kLk S + 1, false, nI Q, nI e.1, goF n t (kTr S) (kFa S) (kGa S), kFa S, kGa S, kLa S, cmpF (kTr S) (kBz S) t 8)
              else (t, e.2, kGa S t ||| kTr S t, kLa S t - sumM pr' (kTr S t) n, S.2.2.2.2.1 + sumM pr' (kTr S t) n, kLk S + 1, false, kBs S, kBo S, goF n t (kTr S) (kFa S) (kGa S), kFa S, kGa S, kLa S, kBz S) := by
            unfold stepE
            rw [hend]
            show (if kBs S < savedM n wo' (e.2 ||| nearM n ne' e.2 (kGa S t ||| kTr S t)) then (t, e.2 ||| nearM n ne' e.2 (kGa S t ||| kTr S t), kGa S t ||| kTr S t, kLa S t - sumM pr' (kTr S t) n, S.2.2.2.2.1 + sumM pr' (kTr S t) n, kLk S + 1, false, savedM n wo' (e.2 ||| nearM n ne' e.2 (kGa S t ||| kTr S t)), nI e.1, goF n t (kTr S) (kFa S) (kGa S), kFa S, kGa S, kLa S, cmpF (kTr S) (kBz S) t 8) else (t, e.2 ||| nearM n ne' e.2 (kGa S t ||| kTr S t), kGa S t ||| kTr S t, kLa S t - sumM pr' (kTr S t) n, S.2.2.2.2.1 + sumM pr' (kTr S t) n, kLk S + 1, false, kBs S, kBo S, goF n t (kTr S) (kFa S) (kGa S), kFa S, kGa S, kLa S, kBz S)) = _
            have z : nearM n ne' e.2 (kGa S t ||| kTr S t) = 0 := by rw [hgu, htr]; exact j3
            rw [z, Int32.or_zero, eQ]
          by_cases hbet : x.2.1 < nI Q
          · rw [if_pos hbet]
            rw [if_pos (by rw [hbsE]; exact hbet)] at hE
            refine cont s (x.1 + 1, nI Q, nI e.1, x.2.2.2.1, upd x.2.2.2.2.1 (t - 1) (nI s), keptA (upd x.2.2.2.2.1 (t - 1) (nI s)) x.2.2.2.2.2 t 8) _ (Nat.le_refl _) hsub (Goes.one hT ht h8 hsp hpos (hstep.trans hE)) rfl rfl ?_ (fun j _ => ⟨rfl, rfl, rfl⟩) (fun j hj => ?_) (fun i hi => ?_) ⟨⟨l + 1, by omega, hl1⟩, ?_, ?_, rfl, Or.inr ⟨⟨Q, hQ, rfl⟩, rfl, fun i hi => ?_⟩⟩ ?_
            · show goF n t (kTr S) (kFa S) (kGa S) t = _
              rw [hgo, pk_us]
            · show goF n t (kTr S) (kFa S) (kGa S) j = _
              rw [hgo, pk_un (by omega)]
            · show upd x.2.2.2.2.1 (t - 1) (nI s) i = _
              rw [pk_un (by omega)]
            · show kLk S + 1 = x.1 + 1
              rw [hlk]
            · show false = x.2.2.2.1
              rw [← hspE, hsp]
            · show cmpF (kTr S) (kBz S) t 8 (i + 1) = keptA (upd x.2.2.2.2.1 (t - 1) (nI s)) x.2.2.2.2.2 t 8 i
              unfold cmpF keptA
              rw [if_pos (by omega), if_pos hi]
              by_cases w : i < t
              · rw [if_pos (by omega), if_pos w]
                by_cases z : i = t - 1
                · rw [z, pk_us, show t - 1 + 1 = t by omega, htr]
                · rw [pk_un z]
                  exact hway i (by omega)
              · rw [if_neg (by omega), if_neg w]
            · intro w
              have : ¬ nI Q < 0 := nI_pos (by omega)
              rw [show nI Q = -1 from w] at this
              exact this (by decide)
          · rw [if_neg hbet]
            rw [if_neg (by rw [hbsE]; exact hbet)] at hE
            have hx1 : x.2.1 ≠ -1 := fun w => hbet (by
              rw [w]
              exact Int32.lt_of_lt_of_le (by decide) (nI_pos' (n := Q) (by omega)))
            refine cont s (x.1 + 1, x.2.1, x.2.2.1, x.2.2.2.1, upd x.2.2.2.2.1 (t - 1) (nI s), x.2.2.2.2.2) _ (Nat.le_refl _) hsub (Goes.one hT ht h8 hsp hpos (hstep.trans hE)) rfl rfl ?_ (fun j _ => ⟨rfl, rfl, rfl⟩) (fun j hj => ?_) (fun i hi => ?_) ⟨⟨l + 1, by omega, hl1⟩, ?_, ?_, hbsE, hrest⟩ hx1
            · show goF n t (kTr S) (kFa S) (kGa S) t = _
              rw [hgo, pk_us]
            · show goF n t (kTr S) (kFa S) (kGa S) j = _
              rw [hgo, pk_un (by omega)]
            · show upd x.2.2.2.2.1 (t - 1) (nI s) i = _
              rw [pk_un (by omega)]
            · show kLk S + 1 = x.1 + 1
              rw [hlk]
            · show false = x.2.2.2.1
              rw [← hspE, hsp]
      · -- spent
        have hlb : l = b := by omega
        rw [if_neg (by rw [hxl, hbd]; exact nI_nlt (by omega) (by omega))]
        have e : (if nI (nx 32 fr s) = 0 then (x.1, x.2.1, x.2.2.1, true, x.2.2.2.2.1, x.2.2.2.2.2) else seekL (fun set left x => lookF (seekF (nI n) wo pr ne ow ke bd d) (nI n) wo ne ow ke bd t bu gu set left x) pr (nI fr) (nI m) F (nI (nx 32 fr s)) (x.1, x.2.1, x.2.2.1, true, x.2.2.2.2.1, x.2.2.2.2.2)) = (x.1, x.2.1, x.2.2.1, true, x.2.2.2.2.1, x.2.2.2.2.2) := by
          split
          · rfl
          · exact seekL_spent rfl _ _
        show LOut n bd ow' ke' pr' ne' wo' pz b t x (if nI (nx 32 fr s) = 0 then (x.1, x.2.1, x.2.2.1, true, x.2.2.2.2.1, x.2.2.2.2.2) else seekL (fun set left x => lookF (seekF (nI n) wo pr ne ow ke bd d) (nI n) wo ne ow ke bd t bu gu set left x) pr (nI fr) (nI m) F (nI (nx 32 fr s)) (x.1, x.2.1, x.2.2.1, true, x.2.2.2.2.1, x.2.2.2.2.2)) S
        rw [e]
        refine ⟨(t, kFa S t, kGa S t, kLa S t, S.2.2.2.2.1, kLk S, true, kBs S, kBo S, kTr S, kFa S, kGa S, kLa S, kBz S), Goes.one hT ht h8 hsp hpos ?_, ⟨⟨l, hl, hxl⟩, hlk, rfl, hbsE, hrest⟩, fun w => ?_, Or.inl rfl⟩
        · rw [stepK, if_pos hle, if_pos hpay, if_pos (by rw [hlk, hxl, hbd, hlb])]
        · have := (hneg w).2
          rw [hxl, nI_eq (by omega) (by omega)] at this
          omega
/-- every level -/
theorem lev_all {n b : Nat} {pr pr' ne ne' wo wo' ow ow' : Row} {ke : Int32} {ke' : Bool} {bd : Int32} {pz : Row} {p q o : Nat → Nat} (H : SHyp n b pr pr' ne ne' wo wo' ow ow' ke ke' bd pz p q o) :
    ∀ (d t : Nat), t + d = 8 → 1 ≤ t → ∀ (fr m : Nat) (x : Ss) (S : Km), LIn n b t 0 fr m x S → LOut n bd ow' ke' pr' ne' wo' pz b t x (seekF (nI n) wo pr ne ow ke bd (d + 1) t (kFa S t) (kGa S t) (nI m) x) S
  | d, t, hd, ht, fr, m, x, S, hin => by
    have e : seekF (nI n) wo pr ne ow ke bd (d + 1) t (kFa S t) (kGa S t) (nI m) x = seekL (fun set left x => lookF (seekF (nI n) wo pr ne ow ke bd d) (nI n) wo ne ow ke bd t (kFa S t) (kGa S t) set left x) pr (nI fr) (nI m) 1024 (nI 0) x := by
      rw [seekF, hin.2.2.2.2.1]
      rfl
    rw [e]
    refine lev_in H ht (by omega) (d := d) (fun h8 fr' m' x' S' hin' => ?_) 1024 0 fr m x S rfl rfl hin (by omega)
    cases d with
    | zero => omega
    | succ d => exact lev_all H d (t + 1) (by omega) (by omega) fr' m' x' S' hin'
/-- the whole search -/
theorem seek_top {n b : Nat} {pr pr' ne ne' wo wo' ow ow' : Row} {ke : Int32} {ke' : Bool} {bd : Int32} {pz : Row} {p q o : Nat → Nat} (H : SHyp n b pr pr' ne ne' wo wo' ow ow' ke ke' bd pz p q o) {d : Nat} (hd : 1 + d = 8) {fire : Int32} (hf : below n fire) (ov : Int32) (way kept tr fa ga la bz : Row) :
    ∃ Y : Km, SeekTo n bd ow' ke' pr' ne' wo' pz (x0M ow' ke' fire tr fa ga la bz) Y ∧ SRel b (seekF (nI n) wo pr ne ow ke bd (d + 1) 1 fire 0 (moneyI ow ke 1 0) (0, -1, ov, false, way, kept)) Y ∧ (seekF (nI n) wo pr ne ow ke bd (d + 1) 1 fire 0 (moneyI ow ke 1 0) (0, -1, ov, false, way, kept)).2.1 ≠ -1 := by
  have H0 := H
  obtain ⟨hn, hpr, hne, hwo, hbl, hp, hp9, hq, hq9, ho, hoN, hke, hbd, hb50, hb1000, hpz⟩ := H
  obtain ⟨fr, hfr, efr⟩ := free_nat hn fire 0
  obtain ⟨m, hm, hfm⟩ := fill_nat hoN ke' (Nat.le_refl 1) (show 1 ≤ 8 by omega) 0
  have hin : LIn n b 1 0 fr m (0, -1, ov, false, way, kept) (x0M ow' ke' fire tr fa ga la bz) := by
    refine ⟨rfl, rfl, ?_, ?_, ?_, hfr, fun i hi => by rw [Nat.zero_testBit] at hi; cases hi, ?_, by omega, ⟨⟨0, by omega, rfl⟩, rfl, rfl, rfl, Or.inl rfl⟩, fun i hi => by omega, fun _ => ⟨rfl, rfl⟩⟩
    · show below n (upd fa 1 fire 1)
      rw [pk_us]
      exact hf
    · show upd tr 1 0 1 = _
      rw [pk_us]
      rfl
    · show freeI (nI n) (upd fa 1 fire 1) (upd ga 1 0 1) = _
      rw [pk_us, pk_us]
      exact efr
    · show upd la 1 (fillM ow' ke' 1 0) 1 = _
      rw [pk_us]
      exact hfm
  have h := lev_all H0 d 1 hd (Nat.le_refl 1) fr m _ _ hin
  rw [show kFa (x0M ow' ke' fire tr fa ga la bz) 1 = fire from pk_us, show kGa (x0M ow' ke' fire tr fa ga la bz) 1 = 0 from pk_us, ← hfm, show fillM ow' ke' 1 (nI 0) = moneyI ow ke 1 0 from (fill_eq ho hke (Nat.le_refl 1) 0).symm] at h
  obtain ⟨Y, g, r, hne1, h2⟩ := h
  refine ⟨Y, g.seekTo (h2.elim (fun z => Or.inr z) (fun z => Or.inl z.2.1)), r, hne1⟩
/-! divisors: both sides find the same -/
def fibN : Nat → Nat
  | 0 => 0
  | 1 => 1
  | n + 2 => fibN n + fibN (n + 1)
theorem cmp_eq0 (x y : Int64) : lg_cmp x y = 0 ↔ x = y := by
  unfold lg_cmp
  by_cases h1 : x > y
  · rw [if_pos h1]
    refine ⟨fun q => absurd q (by decide), fun q => ?_⟩
    rw [q] at h1
    exact absurd h1 Int64.lt_irrefl
  · rw [if_neg h1]
    by_cases h2 : x = y
    · rw [if_pos h2]; exact ⟨fun _ => h2, fun _ => rfl⟩
    · rw [if_neg h2]; exact ⟨fun q => absurd q (by decide), fun q => absurd q h2⟩
theorem lN_nz {a : Nat} (h : a < 2 ^ 63) : lN a = 0 ↔ a = 0 := by
  rw [show (0 : Int64) = lN 0 from rfl, pk_lEQ h (by omega)]
theorem gcd_rec {x y : Nat} (h : y ≠ 0) : Nat.gcd x y = Nat.gcd y (x % y) := by
  rw [Nat.gcd_comm x y, Nat.gcd_rec y x, Nat.gcd_comm]
theorem gcdA_nat : ∀ (f x y : Nat), y < fibN (f + 1) → x < 2 ^ 63 → y < 2 ^ 63 → gcdA f (lN x) (lN y) = lN (Nat.gcd x y)
  | 0, x, y, h, _, _ => by
    have e : fibN (0 + 1) = 1 := rfl
    have : y = 0 := by omega
    subst this
    rw [gcdA, Nat.gcd_zero_right]
  | 1, x, y, h, hx, hy => by
    have e : fibN (1 + 1) = 1 := rfl
    have : y = 0 := by omega
    subst this
    rw [gcdA, if_pos ((cmp_eq0 _ _).mpr rfl), Nat.gcd_zero_right]
  | f + 2, x, y, h, hx, hy => by
    rw [gcdA]
    by_cases h0 : y = 0
    · subst h0
      rw [if_pos ((cmp_eq0 _ _).mpr rfl), Nat.gcd_zero_right]
    · rw [if_neg (fun q => h0 ((lN_nz hy).mp ((cmp_eq0 _ _).mp q))), pk_lRem hx (by omega) hy, gcd_rec h0]
      have hm := Nat.mod_lt x (show y > 0 by omega)
      have e3 : fibN (f + 3) = fibN (f + 1) + fibN (f + 2) := rfl
      rcases Nat.lt_or_ge (x % y) (fibN (f + 2)) with q | q
      · exact gcdA_nat (f + 1) y (x % y) q hy (by omega)
      · rw [gcdA]
        have h1 : x % y ≠ 0 := fun z => by
          rw [z] at q
          have : 0 < fibN (f + 2) := by
            have : ∀ k, 0 < fibN (k + 1) ∧ 0 < fibN (k + 2) := fun k => by
              induction k with
              | zero => exact ⟨by decide, by decide⟩
              | succ k ih => exact ⟨ih.2, by show 0 < fibN (k + 1) + fibN (k + 2); omega⟩
            exact (this (f + 1)).1
          omega
        rw [if_neg (fun w => h1 ((lN_nz (by omega)).mp ((cmp_eq0 _ _).mp w))), pk_lRem hy (by omega) (by omega), gcd_rec h1]
        have h2 : y % (x % y) < fibN (f + 1) := by
          have := Nat.mod_lt y (show x % y > 0 by omega)
          have h3 : y % (x % y) ≤ y - x % y := by
            have h4 := Nat.div_add_mod y (x % y)
            have h5 : 1 ≤ y / (x % y) := (Nat.one_le_div_iff (by omega)).mpr (by omega)
            have h6 := Nat.mul_le_mul_left (x % y) h5
            omega
          omega
        exact gcdA_nat f (x % y) (y % (x % y)) h2 (by omega) (by omega)
theorem gcdQ_of : ∀ (f x y : Nat), y < fibN f → x < 2 ^ 63 → y < 2 ^ 63 → gcdQ f (lN x) (lN y) = some (lN (Nat.gcd x y))
  | 0, x, y, h, _, _ => by
    have e : fibN 0 = 0 := rfl
    omega
  | 1, x, y, h, hx, hy => by
    have e : fibN 1 = 1 := rfl
    have : y = 0 := by omega
    subst this
    rw [gcdQ, if_pos rfl, Nat.gcd_zero_right]
  | f + 2, x, y, h, hx, hy => by
    rw [gcdQ]
    by_cases h0 : y = 0
    · subst h0
      rw [if_pos rfl, Nat.gcd_zero_right]
    · rw [if_neg (fun q => h0 ((lN_nz hy).mp q)), pk_lRem hx (by omega) hy, gcd_rec h0]
      have hm := Nat.mod_lt x (show y > 0 by omega)
      have e3 : fibN (f + 2) = fibN f + fibN (f + 1) := rfl
      rcases Nat.lt_or_ge (x % y) (fibN (f + 1)) with q | q
      · exact gcdQ_of (f + 1) y (x % y) q hy (by omega)
      · rw [gcdQ]
        have hp : 0 < fibN (f + 1) := by
          have : ∀ k, 0 < fibN (k + 1) ∧ 0 < fibN (k + 2) := fun k => by
            induction k with
            | zero => exact ⟨by decide, by decide⟩
            | succ k ih => exact ⟨ih.2, by show 0 < fibN (k + 1) + fibN (k + 2); omega⟩
          exact (this f).1
        have h1 : x % y ≠ 0 := by omega
        rw [if_neg (fun w => h1 ((lN_nz (by omega)).mp w)), pk_lRem hy (by omega) (by omega), gcd_rec h1]
        have h2 : y % (x % y) < fibN f := by
          have := Nat.mod_lt y (show x % y > 0 by omega)
          have h3 : y % (x % y) ≤ y - x % y := by
            have h4 := Nat.div_add_mod y (x % y)
            have h5 : 1 ≤ y / (x % y) := (Nat.one_le_div_iff (by omega)).mpr (by omega)
            have h6 := Nat.mul_le_mul_left (x % y) h5
            omega
          omega
        exact gcdQ_of f (x % y) (y % (x % y)) h2 (by omega) (by omega)
theorem gcdL_of : ∀ (f x y : Nat), y < fibN f → x < 2 ^ 31 → y < 2 ^ 31 → gcdL f (nI x) (nI y) = some (nI (Nat.gcd x y))
  | 0, x, y, h, _, _ => by
    have e : fibN 0 = 0 := rfl
    omega
  | 1, x, y, h, hx, hy => by
    have e : fibN 1 = 1 := rfl
    have : y = 0 := by omega
    subst this
    rw [gcdL, if_pos rfl, Nat.gcd_zero_right]
  | f + 2, x, y, h, hx, hy => by
    rw [gcdL]
    by_cases h0 : y = 0
    · subst h0
      rw [if_pos rfl, Nat.gcd_zero_right]
    · rw [if_neg (nI_ne0 (by omega) hy), pk_rem hx (by omega) hy, gcd_rec h0]
      have hm := Nat.mod_lt x (show y > 0 by omega)
      have e3 : fibN (f + 2) = fibN f + fibN (f + 1) := rfl
      rcases Nat.lt_or_ge (x % y) (fibN (f + 1)) with q | q
      · exact gcdL_of (f + 1) y (x % y) q hy (by omega)
      · rw [gcdL]
        have hp : 0 < fibN (f + 1) := by
          have : ∀ k, 0 < fibN (k + 1) ∧ 0 < fibN (k + 2) := fun k => by
            induction k with
            | zero => exact ⟨by decide, by decide⟩
            | succ k ih => exact ⟨ih.2, by show 0 < fibN (k + 1) + fibN (k + 2); omega⟩
          exact (this f).1
        have h1 : x % y ≠ 0 := by omega
        rw [if_neg (nI_ne0 (by omega) (by omega)), pk_rem hy (by omega) (by omega), gcd_rec h1]
        have h2 : y % (x % y) < fibN f := by
          have := Nat.mod_lt y (show x % y > 0 by omega)
          have h3 : y % (x % y) ≤ y - x % y := by
            have h4 := Nat.div_add_mod y (x % y)
            have h5 : 1 ≤ y / (x % y) := (Nat.one_le_div_iff (by omega)).mpr (by omega)
            have h6 := Nat.mul_le_mul_left (x % y) h5
            omega
          omega
        exact gcdL_of f (x % y) (y % (x % y)) h2 (by omega) (by omega)
def fibS : Nat → Nat × Nat
  | 0 => (0, 1)
  | n + 1 => ((fibS n).2, (fibS n).1 + (fibS n).2)
theorem fibS_eq : ∀ n, fibS n = (fibN n, fibN (n + 1))
  | 0 => rfl
  | n + 1 => by
    show ((fibS n).2, (fibS n).1 + (fibS n).2) = _
    rw [fibS_eq n]
    rfl
theorem fib_60 : 2 ^ 40 < fibN 60 := by
  have h : (fibS 60).1 = fibN 60 := by rw [fibS_eq]
  rw [← h]
  decide +kernel
theorem fib_101 : 2 ^ 63 ≤ fibN 101 := by
  have h : (fibS 101).1 = fibN 101 := by rw [fibS_eq]
  rw [← h]
  decide +kernel
theorem fib_30 : 2 ^ 19 < fibN 30 := by
  have h : (fibS 30).1 = fibN 30 := by rw [fibS_eq]
  rw [← h]
  decide +kernel
/-- the class's fraction -/
theorem frac_nat {u l : Nat} (hu : u < 2 ^ 63) (hl : l < 2 ^ 63) (h0 : 0 < l) (what : Int32) : fracI (lN u) (lN l) what = lN ((if what = 0 then u else l) / Nat.gcd u l) := by
  have hf := fib_101
  have e : gcdA 100 (lN u) (lN l) = lN (Nat.gcd u l) := gcdA_nat 100 u l (by omega) hu hl
  have hg : 0 < Nat.gcd u l := Nat.gcd_pos_of_pos_right u h0
  have hgl : Nat.gcd u l ≤ l := Nat.le_of_dvd h0 (Nat.gcd_dvd_right u l)
  unfold fracI
  rw [e, if_neg (fun q => by have := (lN_nz (by omega)).mp ((cmp_eq0 _ _).mp q); omega)]
  by_cases w : what = 0
  · rw [if_pos w, if_pos w, pk_lDiv hu hg (by omega)]
  · rw [if_neg w, if_neg w, pk_lDiv hl hg (by omega)]
theorem part_nat {u l : Nat} (hu : u < 2 ^ 31) (hl : l < 2 ^ 31) (h0 : 0 < l) (what : Int32) : partR (nI u) (nI l) (nI (Nat.gcd u l)) what = nI ((if what = 0 then u else l) / Nat.gcd u l) := by
  have hg : 0 < Nat.gcd u l := Nat.gcd_pos_of_pos_right u h0
  have hgl : Nat.gcd u l ≤ l := Nat.le_of_dvd h0 (Nat.gcd_dvd_right u l)
  unfold partR
  by_cases w : what = 0
  · rw [if_pos w, if_pos w, pk_div hu hg (by omega)]
  · rw [if_neg w, if_neg w, pk_div hl hg (by omega)]
theorem frac_part {u l : Nat} (hu : u < 2 ^ 31) (hl : l < 2 ^ 19) (h0 : 0 < l) (what : Int32) : (fracI (nI u).toInt64 (nI l).toInt64 what).toInt32 = partR (nI u) (nI l) (nI (Nat.gcd u l)) what ∧ gcdL 30 (nI u) (nI l) = some (nI (Nat.gcd u l)) ∧ nI (Nat.gcd u l) ≠ 0 := by
  have hf := fib_30
  have hg : 0 < Nat.gcd u l := Nat.gcd_pos_of_pos_right u h0
  have hgl : Nat.gcd u l ≤ l := Nat.le_of_dvd h0 (Nat.gcd_dvd_right u l)
  refine ⟨?_, gcdL_of 30 u l (by omega) hu (by omega), nI_ne0 hg (by omega)⟩
  rw [nI_l hu, nI_l (by omega), frac_nat (by omega) (by omega) h0, part_nat hu (by omega) h0, lN_i]
/-! chances: the class's branching beside the sum over all ways -/
def sumO (g : Nat → Int64) : Nat → Int64
  | 0 => 0
  | k + 1 => sumO g k + g k
theorem sumO_congr {g h : Nat → Int64} : ∀ {N : Nat}, (∀ o, o < N → g o = h o) → sumO g N = sumO h N
  | 0, _ => rfl
  | N + 1, e => by
    show sumO g N + g N = sumO h N + h N
    rw [sumO_congr (fun o ho => e o (by omega)), e N (by omega)]
theorem sumO_zero {g : Nat → Int64} : ∀ {N : Nat}, (∀ o, o < N → g o = 0) → sumO g N = 0
  | 0, _ => rfl
  | N + 1, e => by
    show sumO g N + g N = 0
    rw [sumO_zero (fun o ho => e o (by omega)), e N (by omega), Int64.add_zero]
theorem sumO_lin (a b : Int64) (g h : Nat → Int64) : ∀ N : Nat, sumO (fun o => a * g o + b * h o) N = a * sumO g N + b * sumO h N
  | 0 => by
    show (0 : Int64) = a * 0 + b * 0
    rw [Int64.mul_zero, Int64.mul_zero, Int64.add_zero]
  | N + 1 => by
    show sumO (fun o => a * g o + b * h o) N + (a * g N + b * h N) = a * (sumO g N + g N) + b * (sumO h N + h N)
    rw [sumO_lin a b g h N, Int64.mul_add, Int64.mul_add]
    ac_rfl
theorem sumO_one {g : Nat → Int64} {v : Nat} (h : ∀ o, o ≠ v → g o = 0) : ∀ {N : Nat}, v < N → sumO g N = g v
  | 0, hv => absurd hv (Nat.not_lt_zero _)
  | N + 1, hv => by
    show sumO g N + g N = g v
    by_cases q : v = N
    · subst q
      rw [sumO_zero (fun o ho => h o (by omega)), Int64.zero_add]
    · rw [sumO_one h (show v < N by omega), h N (fun z => q z.symm), Int64.add_zero]
abbrev Bits := Nat → Bool
/-- what the lines that are not tried weigh -/
def wgt (op sh : Int64) (T O : Bits) : Nat → Int64
  | 0 => 1
  | l + 1 => wgt op sh T O l * (if T l = true then 1 else if O l = true then op else sh)
def setB (T : Bits) (i : Nat) (c : Bool) : Bits := fun l => if l = i then c else T l
theorem wgt_congr {op sh : Int64} {T T' O : Bits} : ∀ {k : Nat}, (∀ l, l < k → T l = T' l) → wgt op sh T O k = wgt op sh T' O k
  | 0, _ => rfl
  | k + 1, h => by
    show wgt op sh T O k * _ = wgt op sh T' O k * _
    rw [wgt_congr (fun l hl => h l (by omega)), h k (by omega)]
theorem wgt_split {op sh : Int64} {T O : Bits} {i : Nat} (hT : T i = false) : ∀ {k : Nat}, i < k → wgt op sh T O k = (if O i = true then op else sh) * wgt op sh (setB T i true) O k
  | 0, h => absurd h (Nat.not_lt_zero _)
  | k + 1, h => by
    show wgt op sh T O k * (if T k = true then 1 else if O k = true then op else sh) = (if O i = true then op else sh) * (wgt op sh (setB T i true) O k * (if setB T i true k = true then 1 else if O k = true then op else sh))
    by_cases q : i = k
    · subst q
      rw [hT, show setB T i true i = true from if_pos rfl, if_neg Bool.false_ne_true, if_pos rfl, Int64.mul_one, wgt_congr (T := T) (T' := setB T i true) (fun l hl => (if_neg (show ¬ l = i by omega)).symm), Int64.mul_comm]
    · rw [wgt_split hT (show i < k by omega), show setB T i true k = T k from if_neg (fun z => q z.symm), Int64.mul_assoc]
def MT (mm : Nat) (T V O : Bits) : Prop := ∀ l, l < mm → T l = true → O l = V l
theorem MT_split {mm : Nat} {T V O : Bits} {i : Nat} {c : Bool} (hi : i < mm) (hT : T i = false) : MT mm (setB T i true) (setB V i c) O ↔ (MT mm T V O ∧ O i = c) := by
  constructor
  · intro h
    refine ⟨fun l hl q => ?_, ?_⟩
    · have hne : l ≠ i := fun z => by rw [z, hT] at q; cases q
      have := h l hl (by rw [setB, if_neg hne]; exact q)
      rw [setB, if_neg hne] at this
      exact this
    · have := h i hi (by rw [setB, if_pos rfl])
      rw [setB, if_pos rfl] at this
      exact this
  · rintro ⟨h1, h2⟩ l hl q
    by_cases hne : l = i
    · subst hne
      rw [setB, if_pos rfl]
      exact h2
    · rw [setB, if_neg hne] at q ⊢
      exact h1 l hl q
noncomputable def trm (op sh : Int64) (mm : Nat) (T V : Bits) (P : Nat → Bool) (o : Nat) : Int64 := @ite Int64 (MT mm T V o.testBit ∧ P o = true) (Classical.propDecidable _) (wgt op sh T o.testBit mm) 0
theorem trm_yes {op sh : Int64} {mm : Nat} {T V : Bits} {P : Nat → Bool} {o : Nat} (h : MT mm T V o.testBit ∧ P o = true) : trm op sh mm T V P o = wgt op sh T o.testBit mm := if_pos h
theorem trm_no {op sh : Int64} {mm : Nat} {T V : Bits} {P : Nat → Bool} {o : Nat} (h : ¬ (MT mm T V o.testBit ∧ P o = true)) : trm op sh mm T V P o = 0 := if_neg h
theorem trm_split (op sh : Int64) {mm : Nat} {T : Bits} (V : Bits) (P : Nat → Bool) {i : Nat} (hi : i < mm) (hT : T i = false) (o : Nat) : trm op sh mm T V P o = op * trm op sh mm (setB T i true) (setB V i true) P o + sh * trm op sh mm (setB T i true) (setB V i false) P o := by
  by_cases hm : MT mm T V o.testBit ∧ P o = true
  · rw [trm_yes hm, wgt_split hT hi]
    cases hO : o.testBit i
    · rw [if_neg (by simp), trm_no (fun q => by have := ((MT_split hi hT).mp q.1).2; rw [hO] at this; cases this), trm_yes ⟨(MT_split hi hT).mpr ⟨hm.1, hO⟩, hm.2⟩, Int64.mul_zero, Int64.zero_add]
    · rw [if_pos rfl, trm_no (T := setB T i true) (V := setB V i false) (fun q => by have := ((MT_split hi hT).mp q.1).2; rw [hO] at this; cases this), trm_yes ⟨(MT_split hi hT).mpr ⟨hm.1, hO⟩, hm.2⟩, Int64.mul_zero, Int64.add_zero]
  · rw [trm_no hm, trm_no (fun q => hm ⟨((MT_split hi hT).mp q.1).1, q.2⟩), trm_no (fun q => hm ⟨((MT_split hi hT).mp q.1).1, q.2⟩), Int64.mul_zero, Int64.mul_zero, Int64.add_zero]
theorem sum_split (op sh : Int64) {mm : Nat} {T : Bits} (V : Bits) (P : Nat → Bool) {i : Nat} (hi : i < mm) (hT : T i = false) (N : Nat) : sumO (trm op sh mm T V P) N = op * sumO (trm op sh mm (setB T i true) (setB V i true) P) N + sh * sumO (trm op sh mm (setB T i true) (setB V i false) P) N := by
  rw [← sumO_lin]
  exact sumO_congr (fun o _ => trm_split op sh V P hi hT o)
def cntU (T : Bits) : Nat → Nat
  | 0 => 0
  | k + 1 => cntU T k + if T k = true then 0 else 1
theorem cntU_0 {T : Bits} : ∀ {k : Nat}, cntU T k = 0 → ∀ l, l < k → T l = true
  | 0, _, l, hl => absurd hl (Nat.not_lt_zero _)
  | k + 1, h, l, hl => by
    have h : cntU T k + (if T k = true then 0 else 1) = 0 := h
    by_cases q : T k = true
    · rw [if_pos q] at h
      by_cases z : l = k
      · rw [z]; exact q
      · exact cntU_0 (show cntU T k = 0 by omega) l (by omega)
    · rw [if_neg q] at h
      omega
theorem cntU_ex {T : Bits} : ∀ {k f : Nat}, cntU T k = f + 1 → ∃ i, i < k ∧ T i = false
  | 0, f, h => by
    have h : 0 = f + 1 := h
    omega
  | k + 1, f, h => by
    have h : cntU T k + (if T k = true then 0 else 1) = f + 1 := h
    by_cases q : T k = true
    · rw [if_pos q] at h
      obtain ⟨i, h1, h2⟩ := cntU_ex (T := T) (k := k) (f := f) (by omega)
      exact ⟨i, by omega, h2⟩
    · exact ⟨k, by omega, by cases z : T k with | false => rfl | true => exact absurd z q⟩
theorem cntU_congr {T T' : Bits} : ∀ {k : Nat}, (∀ l, l < k → T l = T' l) → cntU T k = cntU T' k
  | 0, _ => rfl
  | k + 1, h => by
    show cntU T k + _ = cntU T' k + _
    rw [cntU_congr (fun l hl => h l (by omega)), h k (by omega)]
theorem cntU_split {T : Bits} {i : Nat} (hT : T i = false) : ∀ {k : Nat}, i < k → cntU (setB T i true) k + 1 = cntU T k
  | 0, h => absurd h (Nat.not_lt_zero _)
  | k + 1, h => by
    show cntU (setB T i true) k + (if setB T i true k = true then 0 else 1) + 1 = cntU T k + (if T k = true then 0 else 1)
    by_cases q : i = k
    · subst q
      rw [hT, show setB T i true i = true from if_pos rfl, if_pos rfl, if_neg Bool.false_ne_true, cntU_congr (T := setB T i true) (T' := T) (fun l hl => if_neg (show ¬ l = i by omega))]
    · have := cntU_split hT (show i < k by omega)
      rw [show setB T i true k = T k from if_neg (fun z => q z.symm)]
      omega
theorem bits_ex (V : Bits) : ∀ mm : Nat, ∃ v, v < 2 ^ mm ∧ ∀ l, l < mm → v.testBit l = V l
  | 0 => ⟨0, by decide, fun l hl => absurd hl (Nat.not_lt_zero _)⟩
  | mm + 1 => by
    obtain ⟨v, h1, h2⟩ := bits_ex V mm
    have hp : 2 ^ (mm + 1) = 2 * 2 ^ mm := by rw [Nat.pow_succ, Nat.mul_comm]
    cases hV : V mm
    · refine ⟨v, by omega, fun l hl => ?_⟩
      by_cases q : l = mm
      · rw [q, hV]
        exact Nat.testBit_lt_two_pow h1
      · exact h2 l (by omega)
    · refine ⟨2 ^ mm + v, by omega, fun l hl => ?_⟩
      by_cases q : l = mm
      · rw [q, hV, Nat.testBit_two_pow_add_eq, Nat.testBit_lt_two_pow h1]
        rfl
      · rw [Nat.testBit_two_pow_add_gt (by omega)]
        exact h2 l (by omega)
theorem wgt_done {op sh : Int64} {T O : Bits} : ∀ {k : Nat}, (∀ l, l < k → T l = true) → wgt op sh T O k = 1
  | 0, _ => rfl
  | k + 1, h => by
    show wgt op sh T O k * (if T k = true then 1 else _) = 1
    rw [wgt_done (fun l hl => h l (by omega)), if_pos (h k (by omega)), Int64.mul_one]
theorem lt_bits {x y mm : Nat} (hx : x < 2 ^ mm) (hy : y < 2 ^ mm) (h : ∀ l, l < mm → x.testBit l = y.testBit l) : x = y := Nat.eq_of_testBit_eq fun i => by
  rcases Nat.lt_or_ge i mm with q | q
  · exact h i q
  · rw [Nat.testBit_lt_two_pow (Nat.lt_of_lt_of_le hx (Nat.pow_le_pow_right (by decide) q)), Nat.testBit_lt_two_pow (Nat.lt_of_lt_of_le hy (Nat.pow_le_pow_right (by decide) q))]
theorem binom (op sh : Int64) {mm : Nat} : ∀ (f : Nat) (T V : Bits), cntU T mm = f → sumO (trm op sh mm T V (fun _ => true)) (2 ^ mm) = powL (op + sh) f
  | 0, T, V, h => by
    obtain ⟨v, h1, h2⟩ := bits_ex V mm
    have hT := cntU_0 h
    have e : sumO (trm op sh mm T V (fun _ => true)) (2 ^ mm) = sumO (fun o => if o = v then 1 else 0) (2 ^ mm) := sumO_congr fun o ho => by
      by_cases q : o = v
      · rw [if_pos q, q, trm_yes ⟨fun l hl _ => h2 l hl, rfl⟩, wgt_done hT]
      · rw [if_neg q, trm_no]
        rintro ⟨m, -⟩
        exact q (lt_bits ho h1 (fun l hl => (m l hl (hT l hl)).trans (h2 l hl).symm))
    rw [e, sumO_one (v := v) (fun o ho => if_neg ho) h1, if_pos rfl]
    rfl
  | f + 1, T, V, h => by
    obtain ⟨i, hi, hT⟩ := cntU_ex h
    have hs := cntU_split hT hi
    rw [sum_split op sh V _ hi hT, binom op sh f _ _ (by omega), binom op sh f _ _ (by omega), ← Int64.add_mul, Int64.mul_comm]
    rfl
/-- sets of nodes, as bits -/
def subI (x y : Int32) : Prop := ∀ i, i < 32 → tb x i = true → tb y i = true
/-- a set that the open lines don't lead out of -/
def shutI (en : Row) (mm : Nat) (cl : Int32) (O : Bits) (z : Int32) : Prop := ∀ l, l < mm → O l = true → en l &&& cl = 0 → ¬ z &&& en l = 0 → subI (en l) z
theorem and_nz {x y : Int32} : ¬ x &&& y = 0 ↔ ∃ i, i < 32 ∧ tb x i = true ∧ tb y i = true := by
  rw [zero_iff]
  constructor
  · intro h
    refine Classical.byContradiction fun q => h fun i hi => ?_
    rw [tb_and]
    cases h1 : tb x i
    · rfl
    · cases h2 : tb y i
      · rfl
      · exact absurd ⟨i, hi, h1, h2⟩ q
  · rintro ⟨i, hi, h1, h2⟩ h
    have := h i hi
    rw [tb_and, h1, h2] at this
    cases this
abbrev onw (en : Row) (ba re tr : Int32) (j : Nat) : Prop := ¬ byL en re j = 0 ∧ ¬ byL en re j = en j ∧ byL en re j &&& ba = 0 ∧ bt tr (nI j) = 0
theorem lo_none {en : Row} {ba re tr : Int32} : ∀ {f j : Nat}, j + f < 2 ^ 31 → loF en ba re tr f j = -1 → ∀ l, j ≤ l → l < j + f → ¬ onw en ba re tr l
  | 0, j, _, _, l, h1, h2 => by omega
  | f + 1, j, hj, h, l, h1, h2 => by
    rw [loF] at h
    by_cases q : onw en ba re tr j
    · rw [if_pos q] at h
      have := nI_pos (n := j) (by omega)
      rw [h] at this
      exact absurd (by decide) this
    · rw [if_neg q] at h
      by_cases z : l = j
      · rw [z]; exact q
      · exact lo_none (by omega) h l (by omega) (by omega)
theorem lo_some {en : Row} {ba re tr : Int32} : ∀ {f j : Nat}, ¬ loF en ba re tr f j = -1 → ∃ l, j ≤ l ∧ l < j + f ∧ loF en ba re tr f j = nI l ∧ onw en ba re tr l
  | 0, j, h => absurd rfl h
  | f + 1, j, h => by
    rw [loF] at h ⊢
    by_cases q : onw en ba re tr j
    · rw [if_pos q]
      exact ⟨j, Nat.le_refl _, by omega, rfl, q⟩
    · rw [if_neg q] at h ⊢
      obtain ⟨l, h1, h2, h3, h4⟩ := lo_some h
      exact ⟨l, by omega, by omega, h3, h4⟩
theorem goal_bit {re : Int32} {k : Nat} (hk : k < 32) : ¬ re &&& ((1 : Int32) <<< (nI k &&& 31)) = 0 ↔ tb re k = true := by
  rw [and_nz]
  constructor
  · rintro ⟨i, hi, h1, h2⟩
    rw [tb_shl k hk i hi] at h2
    have := of_decide_eq_true h2
    rw [← this]; exact h1
  · intro h
    exact ⟨k, hk, h, by rw [tb_shl k hk k hk]; exact decide_eq_true rfl⟩
/-- the branching is the sum -/
theorem ways_sum {en : Row} {mm : Nat} (hmm : mm ≤ 12) {cl st op sh : Int32} {RS : Nat → Int32} {kn : Nat} (hk : kn < 32)
    (h1 : ∀ o, o < 2 ^ mm → subI st (RS o)) (h2 : ∀ o, o < 2 ^ mm → shutI en mm cl o.testBit (RS o)) (h3 : ∀ o, o < 2 ^ mm → ∀ z, subI st z → shutI en mm cl o.testBit z → subI (RS o) z) (hos : (op + sh).toInt64 = op.toInt64 + sh.toInt64) :
    ∀ (f : Nat) (re tr : Int32) (V : Bits), cntU (fun l => tb tr l) mm = f → subI st re → (∀ i, i < 32 → tb re i = true → tb cl i = false) → (∀ o, o < 2 ^ mm → MT mm (fun l => tb tr l) V o.testBit → subI re (RS o)) → (∀ l, l < mm → tb tr l = true → V l = true → subI (en l) re) →
      wF en cl op sh ((1 : Int32) <<< (nI kn &&& 31)) mm f re tr = sumO (trm op.toInt64 sh.toInt64 mm (fun l => tb tr l) V (fun o => tb (RS o) kn)) (2 ^ mm) := by
  have hit : ∀ (f : Nat) (re tr : Int32) (V : Bits), cntU (fun l => tb tr l) mm = f → (∀ o, o < 2 ^ mm → MT mm (fun l => tb tr l) V o.testBit → subI re (RS o)) → tb re kn = true → sumO (trm op.toInt64 sh.toInt64 mm (fun l => tb tr l) V (fun o => tb (RS o) kn)) (2 ^ mm) = powL (op + sh).toInt64 f := by
    intro f re tr V hf h5 hg
    rw [hos, ← binom op.toInt64 sh.toInt64 f (fun l => tb tr l) V hf]
    refine sumO_congr fun o ho => ?_
    by_cases q : MT mm (fun l => tb tr l) V o.testBit
    · rw [trm_yes ⟨q, h5 o ho q kn hk hg⟩, trm_yes ⟨q, rfl⟩]
    · rw [trm_no (fun z => q z.1), trm_no (fun z => q z.1)]
  have hnone : ∀ (re tr : Int32) (V : Bits), subI st re → (∀ l, l < mm → tb tr l = true → V l = true → subI (en l) re) → (∀ l, l < mm → ¬ onw en cl re tr l) → ¬ tb re kn = true → sumO (trm op.toInt64 sh.toInt64 mm (fun l => tb tr l) V (fun o => tb (RS o) kn)) (2 ^ mm) = 0 := by
    intro re tr V h4 h7 hno hg
    refine sumO_zero fun o ho => trm_no ?_
    rintro ⟨hm, hP⟩
    refine hg (h3 o ho re h4 (fun l hl hO hc hz => ?_) kn hk hP)
    by_cases hT : tb tr l = true
    · exact h7 l hl hT ((hm l hl hT).symm.trans hO)
    · refine Classical.byContradiction fun hsub => hno l hl ⟨fun z => ?_, fun z => ?_, ?_, ?_⟩
      · refine hsub fun i hi hei => ?_
        have := zero_iff.mp z i hi
        rw [tb_and, hei, tb_not _ hi] at this
        cases w : tb re i
        · rw [w] at this; cases this
        · rfl
      · obtain ⟨i, hi, a1, a2⟩ := and_nz.mp hz
        have : tb (byL en re l) i = tb (en l) i := by rw [z]
        rw [tb_and, a2, tb_not _ hi, a1] at this
        cases this
      · refine zero_iff.mpr fun i hi => ?_
        have := zero_iff.mp hc i hi
        rw [tb_and] at this
        rw [tb_and, tb_and]
        cases a : tb (en l) i
        · rfl
        · rw [a] at this
          have : tb cl i = false := this
          rw [this, Bool.and_false]
      · exact Decidable.byContradiction fun w => hT ((bt_n0 (by omega)).mp w)
  intro f
  induction f with
  | zero =>
    intro re tr V hf h4 h5 h6 h7
    rw [wF]
    by_cases hg : tb re kn = true
    · rw [if_pos ((goal_bit hk).mpr hg), hit 0 re tr V hf h6 hg]
    · rw [if_neg (fun z => hg ((goal_bit hk).mp z)), hnone re tr V h4 h7 (fun l hl z => ?_) hg]
      have := cntU_0 hf l hl
      exact absurd z.2.2.2 ((bt_n0 (by omega)).mpr this)
  | succ f ih =>
    intro re tr V hf h4 h5 h6 h7
    rw [wF]
    by_cases hg : tb re kn = true
    · rw [if_pos ((goal_bit hk).mpr hg), hit (f + 1) re tr V hf h6 hg]
    · rw [if_neg (fun z => hg ((goal_bit hk).mp z))]
      by_cases hlo : loF en cl re tr mm 0 = -1
      · rw [if_pos hlo, hnone re tr V h4 h7 (fun l hl => lo_none (by omega) hlo l (by omega) (by omega)) hg]
      · rw [if_neg hlo]
        obtain ⟨i, -, hi, elo, o1, o2, o3, o4⟩ := lo_some hlo
        have hi : i < mm := by omega
        rw [elo, nI_clamp (by omega)]
        have hTi : (fun l => tb tr l) i = false := by
          show tb tr i = false
          cases w : tb tr i
          · rfl
          · exact absurd o4 ((bt_n0 (by omega)).mpr w)
        have htr : ∀ l, l < 32 → tb (tr ||| ((1 : Int32) <<< (nI i &&& 31))) l = setB (fun l => tb tr l) i true l := fun l hl => by
          rw [tb_or, tb_shl i (by omega) l hl]
          unfold setB
          by_cases z : l = i
          · rw [if_pos z, decide_eq_true z, Bool.or_true]
          · rw [if_neg z, decide_eq_false z, Bool.or_false]
        have hcnt : cntU (fun l => tb (tr ||| ((1 : Int32) <<< (nI i &&& 31))) l) mm = f := by
          rw [cntU_congr (T' := setB (fun l => tb tr l) i true) (fun l hl => htr l (by omega))]
          have := cntU_split hTi hi
          omega
        have hMT : ∀ (W O : Bits), MT mm (fun l => tb (tr ||| ((1 : Int32) <<< (nI i &&& 31))) l) W O ↔ MT mm (setB (fun l => tb tr l) i true) W O := fun W O => by
          constructor
          · intro m l hl q
            exact m l hl ((htr l (by omega)).trans q)
          · intro m l hl q
            exact m l hl ((htr l (by omega)).symm.trans q)
        have htrm : ∀ (W : Bits), sumO (trm op.toInt64 sh.toInt64 mm (fun l => tb (tr ||| ((1 : Int32) <<< (nI i &&& 31))) l) W (fun o => tb (RS o) kn)) (2 ^ mm) = sumO (trm op.toInt64 sh.toInt64 mm (setB (fun l => tb tr l) i true) W (fun o => tb (RS o) kn)) (2 ^ mm) := fun W => sumO_congr fun o ho => by
          by_cases q : MT mm (setB (fun l => tb tr l) i true) W o.testBit ∧ tb (RS o) kn = true
          · rw [trm_yes q, trm_yes (T := fun l => tb (tr ||| ((1 : Int32) <<< (nI i &&& 31))) l) ⟨(hMT W _).mpr q.1, q.2⟩]
            exact wgt_congr (fun l hl => htr l (by omega))
          · rw [trm_no q, trm_no (T := fun l => tb (tr ||| ((1 : Int32) <<< (nI i &&& 31))) l) (fun z => q ⟨(hMT W _).mp z.1, z.2⟩)]
        -- no end of the line is barred
        have hbar : ∀ j, j < 32 → tb (en i) j = true → tb cl j = false := fun j hj hej => by
          cases w : tb re j
          · have := zero_iff.mp o3 j hj
            rw [tb_and, tb_and, hej, tb_not _ hj, w] at this
            exact this
          · exact h5 j hj w
        have hcl : en i &&& cl = 0 := zero_iff.mpr fun j hj => by
          rw [tb_and]
          cases w : tb (en i) j
          · rfl
          · rw [hbar j hj w]; rfl
        have htouch : ∃ j, j < 32 ∧ tb re j = true ∧ tb (en i) j = true := by
          refine Classical.byContradiction fun q => o2 (tb_ext fun j hj => ?_)
          rw [tb_and, tb_not _ hj]
          cases w1 : tb (en i) j
          · rfl
          · cases w2 : tb re j
            · rfl
            · exact absurd ⟨j, hj, w2, w1⟩ q
        have ih1 := ih (re ||| en i) (tr ||| ((1 : Int32) <<< (nI i &&& 31))) (setB V i true) hcnt
          (fun j hj q => by rw [tb_or, h4 j hj q, Bool.true_or])
          (fun j hj q => by
            rw [tb_or] at q
            cases w : tb re j
            · rw [w, Bool.false_or] at q
              exact hbar j hj q
            · exact h5 j hj w)
          (fun o ho m => by
            have m2 := (MT_split hi hTi).mp ((hMT _ _).mp m)
            have s1 := h6 o ho m2.1
            obtain ⟨j0, hj0, w1, w2⟩ := htouch
            have s2 := h2 o ho i hi m2.2 hcl (and_nz.mpr ⟨j0, hj0, s1 j0 hj0 w1, w2⟩)
            intro j hj q
            rw [tb_or] at q
            cases w : tb re j
            · rw [w, Bool.false_or] at q
              exact s2 j hj q
            · exact s1 j hj w)
          (fun l hl q v j hj w => by
            rw [tb_or]
            rw [htr l (by omega)] at q
            by_cases z : l = i
            · rw [z] at w
              rw [w, Bool.or_true]
            · rw [setB, if_neg z] at q v
              rw [h7 l hl q v j hj w, Bool.true_or])
        have ih2 := ih re (tr ||| ((1 : Int32) <<< (nI i &&& 31))) (setB V i false) hcnt h4 h5
          (fun o ho m => h6 o ho ((MT_split hi hTi).mp ((hMT _ _).mp m)).1)
          (fun l hl q v => by
            rw [htr l (by omega)] at q
            by_cases z : l = i
            · rw [z, setB, if_pos rfl] at v
              cases v
            · rw [setB, if_neg z] at q v
              exact h7 l hl q v)
        rw [ih1, ih2, htrm, htrm, ← sum_split op.toInt64 sh.toInt64 V _ hi hTi]
/-! chances: what burns over some of the lines, and both answers -/
theorem pass_up (en : Row) (cl op s : Int32) : ∀ l, subI s (passA en cl op s l)
  | 0 => fun i _ h => h
  | l + 1 => fun i hi h => by
    have ih := pass_up en cl op s l i hi h
    show tb (if bt op (nI l) = 1 ∧ ¬ passA en cl op s l &&& pairM en l = 0 ∧ pairM en l &&& cl = 0 then passA en cl op s l ||| pairM en l else passA en cl op s l ||| 0) i = true
    split
    · rw [tb_or, ih, Bool.true_or]
    · rw [tb_or, ih, Bool.true_or]
theorem pass_step (en : Row) (cl op s : Int32) (l : Nat) : subI (passA en cl op s l) (passA en cl op s (l + 1)) := fun i hi h => by
  show tb (if bt op (nI l) = 1 ∧ ¬ passA en cl op s l &&& pairM en l = 0 ∧ pairM en l &&& cl = 0 then passA en cl op s l ||| pairM en l else passA en cl op s l ||| 0) i = true
  split
  · rw [tb_or, h, Bool.true_or]
  · rw [tb_or, h, Bool.true_or]
theorem pass_mono (en : Row) (cl op s : Int32) (l : Nat) : ∀ j, subI (passA en cl op s l) (passA en cl op s (l + j))
  | 0 => fun i _ h => h
  | j + 1 => fun i hi h => pass_step en cl op s (l + j) i hi (pass_mono en cl op s l j i hi h)
/-- within any set that the open lines don't lead out of -/
theorem pass_in {en : Row} {cl op s z : Int32} {mm : Nat} (hmm : mm ≤ 12) (hz : shutI (pairM en) mm cl (fun l => tb op l) z) (hs : subI s z) : ∀ l, l ≤ mm → subI (passA en cl op s l) z
  | 0, _ => hs
  | l + 1, hl => fun i hi h => by
    have ih := pass_in hmm hz hs l (by omega)
    have h : tb (if bt op (nI l) = 1 ∧ ¬ passA en cl op s l &&& pairM en l = 0 ∧ pairM en l &&& cl = 0 then passA en cl op s l ||| pairM en l else passA en cl op s l ||| 0) i = true := h
    by_cases q : bt op (nI l) = 1 ∧ ¬ passA en cl op s l &&& pairM en l = 0 ∧ pairM en l &&& cl = 0
    · rw [if_pos q, tb_or] at h
      cases w : tb (passA en cl op s l) i
      · rw [w, Bool.false_or] at h
        obtain ⟨j, hj, w1, w2⟩ := and_nz.mp q.2.1
        exact hz l (by omega) ((bt_1 (by omega)).mp q.1) q.2.2 (and_nz.mpr ⟨j, hj, ih j hj w1, w2⟩) i hi h
      · exact ih i hi w
    · rw [if_neg q, Int32.or_zero] at h
      exact ih i hi h
/-- a set that one more round leaves alone is shut -/
theorem pass_fix {en : Row} {cl op s : Int32} {mm : Nat} (hmm : mm ≤ 12) (h : passA en cl op s mm = s) : shutI (pairM en) mm cl (fun l => tb op l) s := fun l hl hO hc hz i hi he => by
  have e : ∀ j, j ≤ mm → passA en cl op s j = s := fun j hj => tb_ext fun i hi => by
    cases w : tb s i
    · cases w2 : tb (passA en cl op s j) i
      · rfl
      · have := pass_mono en cl op s j (mm - j) i hi w2
        rw [show j + (mm - j) = mm by omega, h, w] at this
        cases this
    · exact pass_up en cl op s j i hi w
  have h1 := e (l + 1) (by omega)
  have h0 := e l (by omega)
  have h1 : (if bt op (nI l) = 1 ∧ ¬ passA en cl op s l &&& pairM en l = 0 ∧ pairM en l &&& cl = 0 then passA en cl op s l ||| pairM en l else passA en cl op s l ||| 0) = s := h1
  rw [h0, if_pos ⟨(bt_1 (by omega)).mpr hO, hz, hc⟩] at h1
  have : tb (s ||| pairM en l) i = tb s i := by rw [h1]
  rw [tb_or, he, Bool.or_true] at this
  exact this.symm
theorem reach_ok {en : Row} {cl op : Int32} {mm : Nat} (hmm : mm ≤ 12) (st : Int32) : ∀ (d f : Nat) (s : Int32), 32 - cntB s 32 ≤ d → d < f → subI st s → (∀ z, subI st z → shutI (pairM en) mm cl (fun l => tb op l) z → subI s z) →
    ∃ r, reachL en mm cl op f s = some r ∧ subI st r ∧ shutI (pairM en) mm cl (fun l => tb op l) r ∧ ∀ z, subI st z → shutI (pairM en) mm cl (fun l => tb op l) z → subI r z
  | d, 0, s, _, h, _, _ => absurd h (Nat.not_lt_zero _)
  | d, f + 1, s, hd, hf, hs, hz => by
    rw [reachL]
    by_cases q : passA en cl op s mm = s
    · rw [if_pos q]
      exact ⟨s, rfl, hs, pass_fix hmm q, hz⟩
    · rw [if_neg q]
      have hup := pass_up en cl op s mm
      have hex : ∃ i, i < 32 ∧ tb s i = false ∧ tb (passA en cl op s mm) i = true := by
        refine Classical.byContradiction fun w => q (tb_ext fun i hi => ?_)
        cases w1 : tb s i
        · cases w2 : tb (passA en cl op s mm) i
          · rfl
          · exact absurd ⟨i, hi, w1, w2⟩ w
        · exact hup i hi w1
      obtain ⟨i, hi, w1, w2⟩ := hex
      have hor : s ||| passA en cl op s mm = passA en cl op s mm := tb_ext fun j hj => by
        rw [tb_or]
        cases w : tb s j
        · rfl
        · rw [hup j hj w]; rfl
      have hlt := cntB_lt w1 w2 32 hi
      rw [hor] at hlt
      have hle := cntB_le (passA en cl op s mm) 32
      cases d with
      | zero => omega
      | succ d => exact reach_ok hmm st d f (passA en cl op s mm) (by omega) (by omega) (fun j hj w => hup j hj (hs j hj w)) (fun z h1 h2 => pass_in hmm h2 (hz z h1 h2) mm (Nat.le_refl _))
def RSv (en : Row) (mm : Nat) (cl st : Int32) (o : Nat) : Int32 := (reachL en mm cl (nI o) 40 st).getD 0
theorem RSv_ok {en : Row} {mm : Nat} (hmm : mm ≤ 12) (cl st : Int32) (o : Nat) : reachL en mm cl (nI o) 40 st = some (RSv en mm cl st o) ∧ subI st (RSv en mm cl st o) ∧ shutI (pairM en) mm cl (fun l => tb (nI o) l) (RSv en mm cl st o) ∧ ∀ z, subI st z → shutI (pairM en) mm cl (fun l => tb (nI o) l) z → subI (RSv en mm cl st o) z := by
  obtain ⟨r, h1, h2, h3, h4⟩ := reach_ok (en := en) (cl := cl) (op := nI o) hmm st 32 40 st (by omega) (by omega) (fun i _ h => h) (fun z h _ => h)
  have e : RSv en mm cl st o = r := by rw [RSv, h1]; rfl
  rw [e]
  exact ⟨h1, h2, h3, h4⟩
/-- beyond 12 lines nothing is asked of the reach but that it ends -/
theorem reach_ends {en : Row} {cl op : Int32} {mm : Nat} : ∀ (d f : Nat) (s : Int32), 32 - cntB s 32 ≤ d → d < f → ∃ r, reachL en mm cl op f s = some r
  | d, 0, s, _, h => absurd h (Nat.not_lt_zero _)
  | d, f + 1, s, hd, hf => by
    rw [reachL]
    by_cases q : passA en cl op s mm = s
    · rw [if_pos q]
      exact ⟨s, rfl⟩
    · rw [if_neg q]
      have hup := pass_up en cl op s mm
      have hex : ∃ i, i < 32 ∧ tb s i = false ∧ tb (passA en cl op s mm) i = true := by
        refine Classical.byContradiction fun w => q (tb_ext fun i hi => ?_)
        cases w1 : tb s i
        · cases w2 : tb (passA en cl op s mm) i
          · rfl
          · exact absurd ⟨i, hi, w1, w2⟩ w
        · exact hup i hi w1
      obtain ⟨i, hi, w1, w2⟩ := hex
      have hor : s ||| passA en cl op s mm = passA en cl op s mm := tb_ext fun j hj => by
        rw [tb_or]
        cases w : tb s j
        · rfl
        · rw [hup j hj w]; rfl
      have hlt := cntB_lt w1 w2 32 hi
      rw [hor] at hlt
      have hle := cntB_le (passA en cl op s mm) 32
      cases d with
      | zero => omega
      | succ d => exact reach_ends d f (passA en cl op s mm) (by omega) (by omega)
theorem RSv_any (en : Row) (mm : Nat) (cl st : Int32) (o : Nat) : reachL en mm cl (nI o) 40 st = some (RSv en mm cl st o) := by
  obtain ⟨r, h1⟩ := reach_ends (en := en) (mm := mm) (cl := cl) (op := nI o) 32 40 st (by omega) (by omega)
  rw [RSv, h1]
  rfl
theorem chan_sum (RS : Nat → Int32) {kn : Nat} (hk : kn < 32) (a b : Int32) {mm : Nat} (hmm : mm ≤ 12) : ∀ N, N ≤ 2 ^ mm → chanA RS (nI kn) a b mm N = sumO (fun o => if tb (RS o) kn = true then powL a.toInt64 (bitsN (nI o) mm) * powL (b - a).toInt64 (mm - bitsN (nI o) mm) else 0) N
  | 0, _ => rfl
  | N + 1, h => by
    show chanA RS (nI kn) a b mm N + (if bt (RS N) (nI kn) = 1 then _ else 0) = _ + (if tb (RS N) kn = true then _ else 0)
    rw [chan_sum RS hk a b hmm N (by omega)]
    by_cases q : tb (RS N) kn = true
    · rw [if_pos q, if_pos ((bt_1 hk).mpr q)]
    · rw [if_neg q, if_neg (fun z => q ((bt_1 hk).mp z))]
theorem powL_S (b : Int64) (k : Nat) : powL b (k + 1) = powL b k * b := rfl
theorem wgt_all (op sh : Int64) {o : Nat} (ho : o < 2 ^ 31) {T : Bits} : ∀ {k : Nat}, k ≤ 12 → (∀ l, l < k → T l = false) → wgt op sh T o.testBit k = powL op (bitsN (nI o) k) * powL sh (k - bitsN (nI o) k)
  | 0, _, _ => rfl
  | k + 1, hk, h => by
    have hle := bitsN_le (nI o) k
    show wgt op sh T o.testBit k * (if T k = true then 1 else if o.testBit k = true then op else sh) = powL op (bitsN (nI o) k + if bt (nI o) (nI k) = 1 then 1 else 0) * powL sh (k + 1 - (bitsN (nI o) k + if bt (nI o) (nI k) = 1 then 1 else 0))
    rw [wgt_all op sh ho (by omega) (fun l hl => h l (by omega)), h k (by omega), if_neg Bool.false_ne_true]
    by_cases q : o.testBit k = true
    · rw [if_pos q, if_pos ((bt_1 (by omega)).mpr (by rw [tb_nI ho]; exact q)), powL_S, show k + 1 - (bitsN (nI o) k + 1) = k - bitsN (nI o) k by omega]
      ac_rfl
    · rw [if_neg q, if_neg (fun z => q (by rw [← tb_nI ho]; exact (bt_1 (by omega)).mp z)), Nat.add_zero, show k + 1 - bitsN (nI o) k = (k - bitsN (nI o) k) + 1 by omega, powL_S]
      ac_rfl
/-- in how many ways: no more than there are -/
theorem pow_nat (B : Nat) : ∀ k, powL (lN B) k = lN (B ^ k)
  | 0 => rfl
  | k + 1 => by rw [powL_S, pow_nat B k, lN_mul, Nat.pow_succ]
theorem ways_nat {en : Row} {ba : Int32} {A B : Nat} {go : Int32} {ln : Nat} (hA : A + B < 2 ^ 31) : ∀ (f : Nat) (re tr : Int32), ∃ W, W ≤ (A + B) ^ f ∧ wF en ba (nI A) (nI B) go ln f re tr = lN W
  | 0, re, tr => by
    rw [wF]
    split
    · exact ⟨1, Nat.le_refl _, rfl⟩
    · exact ⟨0, Nat.zero_le _, rfl⟩
  | f + 1, re, tr => by
    rw [wF]
    split
    · exact ⟨(A + B) ^ (f + 1), Nat.le_refl _, by rw [nI_add, nI_l hA, pow_nat]⟩
    · split
      · exact ⟨0, Nat.zero_le _, rfl⟩
      · obtain ⟨W1, h1, e1⟩ := ways_nat (en := en) (ba := ba) (go := go) (ln := ln) hA f (re ||| en (loF en ba re tr ln 0).toNatClampNeg) (tr ||| ((1 : Int32) <<< (loF en ba re tr ln 0 &&& 31)))
        obtain ⟨W2, h2, e2⟩ := ways_nat (en := en) (ba := ba) (go := go) (ln := ln) hA f re (tr ||| ((1 : Int32) <<< (loF en ba re tr ln 0 &&& 31)))
        refine ⟨A * W1 + B * W2, ?_, by rw [e1, e2, nI_l (by omega), nI_l (by omega), lN_mul, lN_mul, lN_add]⟩
        have q1 := Nat.mul_le_mul_left A h1
        have q2 := Nat.mul_le_mul_left B h2
        rw [Nat.pow_succ, Nat.mul_comm ((A + B) ^ f), Nat.add_mul]
        omega
theorem lo_congr {en en' : Row} {ba re tr : Int32} : ∀ {f j : Nat}, (∀ l, j ≤ l → l < j + f → en l = en' l) → loF en ba re tr f j = loF en' ba re tr f j
  | 0, _, _ => rfl
  | f + 1, j, h => by
    rw [loF, loF, lo_congr (fun l h1 h2 => h l (by omega) (by omega))]
    unfold byL
    rw [h j (Nat.le_refl _) (by omega)]
theorem ways_congr {en en' : Row} {ba op sh go : Int32} {ln : Nat} (hln : ln < 2 ^ 31) (h : ∀ l, l < ln → en l = en' l) : ∀ (f : Nat) (re tr : Int32), wF en ba op sh go ln f re tr = wF en' ba op sh go ln f re tr
  | 0, re, tr => by rw [wF, wF]
  | f + 1, re, tr => by
    have e : loF en ba re tr ln 0 = loF en' ba re tr ln 0 := lo_congr (fun l _ h2 => h l (by omega))
    rw [wF, wF, e]
    by_cases q : loF en' ba re tr ln 0 = -1
    · rw [if_pos q, if_pos q]
    · obtain ⟨l, -, h2, h3, -⟩ := lo_some q
      rw [if_neg q, if_neg q, ways_congr hln h f, ways_congr hln h f, h3, nI_clamp (by omega), h l (by omega)]
def getQ (x : Option Int64) : Int64 := x.getD 0
/-- both answers of chance -/
theorem chance_eq {nn mm : Nat} (hn : nn ≤ 10) (hn1 : 1 ≤ nn) {en en' ec : Row} (hen : ∀ l, l < mm → en l = pairM en' l) (k fire gu a b what : Int32) :
    (chanV nn mm k fire gu a b what → gcdQ 60 (chanA (RSv en' mm (gu &&& (fire ^^^ (-1))) fire) k a b mm (2 ^ mm)) (powL b.toInt64 mm) = some (getQ (gcdQ 60 (chanA (RSv en' mm (gu &&& (fire ^^^ (-1))) fire) k a b mm (2 ^ mm)) (powL b.toInt64 mm))) ∧ (getQ (gcdQ 60 (chanA (RSv en' mm (gu &&& (fire ^^^ (-1))) fire) k a b mm (2 ^ mm)) (powL b.toInt64 mm))) ≠ 0) ∧
    chanO nn mm en ec k fire gu a b what = chanceR nn mm (chanA (RSv en' mm (gu &&& (fire ^^^ (-1))) fire) k a b mm (2 ^ mm)) (powL b.toInt64 mm) (getQ (gcdQ 60 (chanA (RSv en' mm (gu &&& (fire ^^^ (-1))) fire) k a b mm (2 ^ mm)) (powL b.toInt64 mm))) k fire gu a b what := by
  have key : chanV nn mm k fire gu a b what → ∃ u l : Nat, u < 2 ^ 63 ∧ l < 2 ^ 40 ∧ 0 < l ∧ chanA (RSv en' mm (gu &&& (fire ^^^ (-1))) fire) k a b mm (2 ^ mm) = lN u ∧ powL b.toInt64 mm = lN l ∧ wF (cpF en ec 12) (gu &&& (fire ^^^ (-1))) a (b - a) ((1 : Int32) <<< (k &&& 31)) mm mm fire 0 = lN u ∧ powL (a + (b - a)).toInt64 mm = lN l := by
    rintro ⟨v1, v2, v3, v4, v5, v6, v7⟩
    obtain ⟨kn, hkn, rfl⟩ := i_hasE hn hn1 v1
    obtain ⟨B, hB, rfl⟩ := i_ixe (n := 6) (Int32.le_trans (by decide) v4.1) v4.2 (by omega)
    obtain ⟨A, hA, rfl⟩ := i_ixe (n := B) v5.1 v5.2 (by omega)
    have hB1 : 1 ≤ B := (nI_leI (a := 1) (by omega) (by omega)).mp v4.1
    have e1 : nI B - nI A = nI (B - A) := pk_sub hA
    have e2 : nI A + nI (B - A) = nI B := by rw [nI_add, show A + (B - A) = B by omega]
    have hpow : B ^ mm ≤ 6 ^ 12 := Nat.le_trans (Nat.pow_le_pow_left hB mm) (Nat.pow_le_pow_right (by decide) v7)
    have h612 : 6 ^ 12 < 2 ^ 40 := by decide
    have hpos : 0 < B ^ mm := Nat.pow_pos (by omega)
    obtain ⟨W, hW, eW⟩ := ways_nat (en := pairM en') (ba := gu &&& (fire ^^^ (-1))) (A := A) (B := B - A) (go := (1 : Int32) <<< (nI kn &&& 31)) (ln := mm) (by omega) mm fire 0
    rw [show A + (B - A) = B by omega] at hW
    have ew : wF (cpF en ec 12) (gu &&& (fire ^^^ (-1))) (nI A) (nI B - nI A) ((1 : Int32) <<< (nI kn &&& 31)) mm mm fire 0 = lN W := by
      rw [e1, ← eW]
      exact ways_congr (by omega) (fun l hl => by rw [cpF, if_pos (by omega)]; exact hen l hl) mm fire 0
    refine ⟨W, B ^ mm, by omega, by omega, hpos, ?_, by rw [nI_l (by omega), pow_nat], ew, by rw [e1, e2, nI_l (by omega), pow_nat]⟩
    rw [← eW]
    have hR := fun o => RSv_ok (en := en') v7 (gu &&& (fire ^^^ (-1))) fire o
    have hp31 : 2 ^ mm ≤ 2 ^ 12 := Nat.pow_le_pow_right (by decide) v7
    have hbit : ∀ o, o < 2 ^ mm → (fun l => tb (nI o) l) = o.testBit := fun o ho => funext fun l => tb_nI (by omega) l
    have hw := ways_sum (en := pairM en') (mm := mm) v7 (cl := gu &&& (fire ^^^ (-1))) (st := fire) (op := nI A) (sh := nI (B - A)) (RS := RSv en' mm (gu &&& (fire ^^^ (-1))) fire) (kn := kn) (by omega)
      (fun o _ => (hR o).2.1) (fun o ho => by rw [← hbit o ho]; exact (hR o).2.2.1) (fun o ho => by rw [← hbit o ho]; exact (hR o).2.2.2) (by rw [e2, nI_l (by omega), nI_l (by omega), nI_l (by omega), lN_add, show A + (B - A) = B by omega])
      mm fire 0 (fun _ => false) (by
        have : ∀ j, cntU (fun l => tb 0 l) j = j := fun j => by
          induction j with
          | zero => rfl
          | succ j ih =>
            show cntU (fun l => tb 0 l) j + (if tb 0 j = true then 0 else 1) = j + 1
            rw [ih, tb_0, if_neg Bool.false_ne_true]
        exact this mm) (fun i _ h => h) (fun i hi h => by rw [tb_and, tb_not _ hi, h]; simp) (fun o _ _ => (hR o).2.1) (fun l _ _ v => by cases v)
    rw [hw, chan_sum _ (by omega) _ _ v7 _ (Nat.le_refl _)]
    refine sumO_congr fun o ho => ?_
    by_cases q : tb (RSv en' mm (gu &&& (fire ^^^ (-1))) fire o) kn = true
    · rw [if_pos q, trm_yes ⟨fun l _ z => by rw [tb_0] at z; cases z, q⟩, wgt_all _ _ (by omega) v7 (fun l _ => tb_0 l), e1]
    · rw [if_neg q, trm_no (fun z => q z.2)]
  by_cases hv : chanV nn mm k fire gu a b what
  · obtain ⟨u, l, hu, hl, hl0, c1, c2, c3, c4⟩ := key hv
    have hg : gcdQ 60 (lN u) (lN l) = some (lN (Nat.gcd u l)) := gcdQ_of 60 u l (by have := fib_60; omega) hu (by omega)
    have hgp : 0 < Nat.gcd u l := Nat.gcd_pos_of_pos_right u hl0
    have hgl : Nat.gcd u l ≤ l := Nat.le_of_dvd hl0 (Nat.gcd_dvd_right u l)
    rw [c1, c2, hg]
    refine ⟨fun _ => ⟨rfl, fun q => by have := (lN_nz (by omega)).mp (show lN (Nat.gcd u l) = 0 from q); omega⟩, ?_⟩
    obtain ⟨v1, v2, v3, v4, v5, v6, v7⟩ := hv
    unfold chanO chanceR
    rw [if_pos v1, if_pos v2, if_pos v3, if_pos v4, if_pos v5, if_pos v6, if_pos v7, if_pos v1, if_pos v2, if_pos v3, if_pos v4, if_pos v5, if_pos v6, if_pos v7, c3, c4, frac_nat hu (by omega) hl0]
    show _ = (if what = 0 then lN u / lN (Nat.gcd u l) else lN l / lN (Nat.gcd u l))
    by_cases w : what = 0
    · rw [if_pos w, if_pos w, pk_lDiv hu hgp (by omega)]
    · rw [if_neg w, if_neg w, pk_lDiv (by omega) hgp (by omega)]
  · refine ⟨fun q => absurd q hv, ?_⟩
    unfold chanO chanceR
    by_cases v1 : 0 ≤ k ∧ k ≤ nI nn - 1
    · rw [if_pos v1, if_pos v1]
      by_cases v2 : 1 ≤ fire ∧ fire ≤ allI (nI nn)
      · rw [if_pos v2, if_pos v2]
        by_cases v3 : 0 ≤ gu ∧ gu ≤ allI (nI nn)
        · rw [if_pos v3, if_pos v3]
          by_cases v4 : 1 ≤ b ∧ b ≤ 6
          · rw [if_pos v4, if_pos v4]
            by_cases v5 : 0 ≤ a ∧ a ≤ b
            · rw [if_pos v5, if_pos v5]
              by_cases v6 : 0 ≤ what ∧ what ≤ 1
              · rw [if_pos v6, if_pos v6, if_neg (fun v7 => hv ⟨v1, v2, v3, v4, v5, v6, v7⟩), if_neg (fun v7 => hv ⟨v1, v2, v3, v4, v5, v6, v7⟩)]
              · rw [if_neg v6, if_neg v6]
            · rw [if_neg v5, if_neg v5]
          · rw [if_neg v4, if_neg v4]
        · rw [if_neg v3, if_neg v3]
      · rw [if_neg v2, if_neg v2]
    · rw [if_neg v1, if_neg v1]

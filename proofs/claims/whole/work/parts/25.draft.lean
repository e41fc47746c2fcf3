/-! sets by rising numbers, on naturals -/
def subN (s f : Nat) : Prop := ∀ i, s.testBit i = true → f.testBit i = true
/-- the next set within f: how many places are left, f, the set -/
def nx : Nat → Nat → Nat → Nat
  | 0, _, _ => 0
  | w + 1, f, s => if f % 2 = 1 ∧ s % 2 = 0 then s + 1 else 2 * nx w (f / 2) (s / 2)
theorem subN_half {s f : Nat} (h : subN s f) : subN (s / 2) (f / 2) := fun i hi => by
  rw [← Nat.testBit_add_one] at hi ⊢
  exact h (i + 1) hi
theorem subN_low {s f : Nat} (h : subN s f) : s % 2 = 1 → f % 2 = 1 := fun q => by
  have := h 0 (by rw [Nat.testBit_zero]; exact decide_eq_true q)
  rw [Nat.testBit_zero] at this
  exact of_decide_eq_true this
theorem subN_of {s f : Nat} (h0 : s % 2 = 1 → f % 2 = 1) (h : subN (s / 2) (f / 2)) : subN s f := fun i hi => by
  cases i with
  | zero =>
    rw [Nat.testBit_zero] at hi ⊢
    exact decide_eq_true (h0 (of_decide_eq_true hi))
  | succ i =>
    rw [Nat.testBit_add_one] at hi ⊢
    exact h i hi
theorem nx_least : ∀ (w f s u : Nat), subN s f → subN u f → s < u → u < 2 ^ w → nx w f s ≠ 0 ∧ nx w f s ≤ u
  | 0, f, s, u, _, _, h, hu => by simp at hu; omega
  | w + 1, f, s, u, hs, hu, h, hw => by
    unfold nx
    by_cases q : f % 2 = 1 ∧ s % 2 = 0
    · rw [if_pos q]
      omega
    · rw [if_neg q]
      have h1 := subN_low hu
      have h2 : s / 2 < u / 2 := by
        rcases Nat.lt_or_ge (s / 2) (u / 2) with z | z
        · exact z
        · exfalso
          have e : s / 2 = u / 2 := by omega
          have : u % 2 = 1 ∧ s % 2 = 0 := by omega
          exact q ⟨h1 this.1, this.2⟩
      have ih := nx_least w (f / 2) (s / 2) (u / 2) (subN_half hs) (subN_half hu) h2 (by rw [Nat.pow_succ] at hw; omega)
      omega
theorem nx_next : ∀ (w f s : Nat), subN s f → nx w f s ≠ 0 → s < nx w f s ∧ subN (nx w f s) f
  | 0, f, s, _, h => absurd rfl h
  | w + 1, f, s, hs, h => by
    unfold nx at h ⊢
    by_cases q : f % 2 = 1 ∧ s % 2 = 0
    · rw [if_pos q]
      refine ⟨by omega, subN_of (fun _ => q.1) ?_⟩
      rw [show (s + 1) / 2 = s / 2 by omega]
      exact subN_half hs
    · rw [if_neg q] at h ⊢
      have ih := nx_next w (f / 2) (s / 2) (subN_half hs) (by omega)
      refine ⟨by omega, subN_of (by omega) ?_⟩
      rw [show 2 * nx w (f / 2) (s / 2) / 2 = nx w (f / 2) (s / 2) by omega]
      exact ih.2
theorem subN_le {s f : Nat} (h : subN s f) : s ≤ f := by
  have e : s &&& f = s := Nat.eq_of_testBit_eq fun i => by
    rw [Nat.testBit_and]
    cases q : s.testBit i
    · rfl
    · rw [h i q]; rfl
  rw [← e]
  exact Nat.and_le_right
theorem bit_halves {a b : Nat} (h0 : a % 2 = b % 2) (h1 : a / 2 = b / 2) : a = b := by omega
theorem and_low (a b : Nat) : (a &&& b) % 2 = if a % 2 = 1 ∧ b % 2 = 1 then 1 else 0 := by
  have := @Nat.and_mod_two_eq_one a b
  split
  · rename_i h; exact this.mpr h
  · rename_i h
    have : ¬ (a &&& b) % 2 = 1 := fun q => h (this.mp q)
    omega
theorem or_low (a b : Nat) : (a ||| b) % 2 = if a % 2 = 1 ∨ b % 2 = 1 then 1 else 0 := by
  have := @Nat.or_mod_two_eq_one a b
  split
  · rename_i h; exact this.mpr h
  · rename_i h
    have : ¬ (a ||| b) % 2 = 1 := fun q => h (this.mp q)
    omega
theorem nx_bits : ∀ (w f s : Nat), f < 2 ^ w → subN s f → ((s ||| (2 ^ w - 1 - f)) + 1) % 2 ^ w &&& f = nx w f s
  | 0, f, s, hf, hs => by
    have : f = 0 := by simp at hf; omega
    subst this
    simp [nx]
  | w + 1, f, s, hf, hs => by
    have hp : 2 ^ (w + 1) = 2 * 2 ^ w := by rw [Nat.pow_succ, Nat.mul_comm]
    have hf2 : f / 2 < 2 ^ w := by omega
    have ih := nx_bits w (f / 2) (s / 2) hf2 (subN_half hs)
    have hpos : 0 < 2 ^ w := Nat.pow_pos (by decide)
    generalize hc : 2 ^ (w + 1) - 1 - f = c
    have hc2 : c / 2 = 2 ^ w - 1 - f / 2 := by omega
    have hc0 : c % 2 = 1 - f % 2 := by omega
    have hA2 : (s ||| c) / 2 = s / 2 ||| (2 ^ w - 1 - f / 2) := by rw [Nat.or_div_two, hc2]
    have hA0 := or_low s c
    have hlow := subN_low hs
    unfold nx
    by_cases q : f % 2 = 1 ∧ s % 2 = 0
    · rw [if_pos q]
      have hA : (s ||| c) % 2 = 0 := by rw [hA0, if_neg (by omega)]
      have hlt : (s ||| c) < 2 ^ (w + 1) := Nat.or_lt_two_pow (by have := subN_le hs; omega) (by omega)
      rw [Nat.mod_eq_of_lt (by omega)]
      apply bit_halves
      · rw [and_low, if_pos (by omega)]; omega
      · rw [Nat.and_div_two, show ((s ||| c) + 1) / 2 = (s ||| c) / 2 by omega, hA2, show (s + 1) / 2 = s / 2 by omega]
        refine Nat.eq_of_testBit_eq fun i => ?_
        rw [Nat.testBit_and, Nat.testBit_or, show 2 ^ w - 1 - f / 2 = 2 ^ w - (f / 2 + 1) by omega, Nat.testBit_two_pow_sub_succ hf2]
        have := subN_half hs i
        cases z : (s / 2).testBit i
        · cases y : (f / 2).testBit i
          · simp
          · simp
        · rw [this z]; rfl
    · rw [if_neg q]
      have hA : (s ||| c) % 2 = 1 := by rw [hA0, if_pos (by omega)]
      have e : ((s ||| c) + 1) % 2 ^ (w + 1) = 2 * (((s ||| c) / 2 + 1) % 2 ^ w) := by
        rw [hp, show (s ||| c) + 1 = 2 * ((s ||| c) / 2 + 1) by omega, Nat.mul_mod_mul_left]
      rw [e, hA2]
      apply bit_halves
      · rw [and_low, if_neg (by omega)]; omega
      · rw [Nat.and_div_two, show (2 * (((s / 2 ||| (2 ^ w - 1 - f / 2)) + 1) % 2 ^ w)) / 2 = ((s / 2 ||| (2 ^ w - 1 - f / 2)) + 1) % 2 ^ w by omega, ih]
        omega
theorem tn_nI {m : Nat} (h : m < 2 ^ 32) : (nI m).toBitVec.toNat = m := pk_tn h
theorem nextW_nat {f s : Nat} (hf : f < 1024) (hs : subN s f) : nextW (nI f) (nI s) = nI (nx 32 f s) := by
  have hs2 := subN_le hs
  apply Int32.toBitVec_inj.mp
  apply BitVec.eq_of_toNat_eq
  have hle : nx 32 f s < 2 ^ 32 := by
    rw [← nx_bits 32 f s (by omega) hs]
    exact Nat.lt_of_le_of_lt Nat.and_le_right (by omega)
  rw [pk_tn hle, ← nx_bits 32 f s (by omega) hs]
  unfold nextW
  rw [Int32.toBitVec_and, BitVec.toNat_and, Int32.toBitVec_add, BitVec.toNat_add, Int32.toBitVec_or, BitVec.toNat_or, pk_tn (by omega), pk_tn (by omega)]
  have e : (nI f ^^^ (-1)).toBitVec.toNat = 2 ^ 32 - 1 - f := by
    have e1 : (nI f ^^^ (-1)).toBitVec = ~~~ (nI f).toBitVec := by
      rw [Int32.toBitVec_xor, ← BitVec.xor_allOnes]
      rfl
    rw [e1, BitVec.toNat_not, pk_tn (by omega)]
  rw [e]
  rfl
/-- behind a set that is too dear: the last one that holds it -/
theorem last_nat : ∀ s, s < 1024 → s ≠ 0 → ∃ p, p < 10 ∧ lastAb (nI s) = nI (s ||| (2 ^ p - 1)) ∧ (s ||| (2 ^ p - 1)) = s + (2 ^ p - 1) ∧ s % 2 ^ p = 0 := by decide +kernel
theorem last_sub {s u p : Nat} (hm : s % 2 ^ p = 0) (h1 : s ≤ u) (h2 : u ≤ s + (2 ^ p - 1)) : subN s u := fun i hi => by
  have hp : 0 < 2 ^ p := Nat.pow_pos (by decide)
  have e : u / 2 ^ p = s / 2 ^ p := by
    have hs := Nat.div_add_mod s (2 ^ p)
    rw [hm, Nat.add_zero] at hs
    have hu := Nat.div_add_mod u (2 ^ p)
    have hu2 := Nat.mod_lt u hp
    rcases Nat.lt_trichotomy (u / 2 ^ p) (s / 2 ^ p) with z | z | z
    · exfalso
      have := Nat.mul_le_mul_left (2 ^ p) (show u / 2 ^ p + 1 ≤ s / 2 ^ p by omega)
      rw [Nat.mul_add] at this
      omega
    · exact z
    · exfalso
      have := Nat.mul_le_mul_left (2 ^ p) (show s / 2 ^ p + 1 ≤ u / 2 ^ p by omega)
      rw [Nat.mul_add] at this
      omega
  rcases Nat.lt_or_ge i p with z | z
  · exfalso
    have := Nat.testBit_mod_two_pow s p i
    rw [hm, Nat.zero_testBit, decide_eq_true z, hi] at this
    cases this
  · obtain ⟨j, rfl⟩ : ∃ j, i = j + p := ⟨i - p, by omega⟩
    rw [← Nat.testBit_div_two_pow] at hi ⊢
    rw [e]
    exact hi
/-- the cut of that last one to f -/
theorem last_cut {s f p : Nat} (hs : subN s f) (he : (s ||| (2 ^ p - 1)) = s + (2 ^ p - 1)) : s ≤ (s ||| (2 ^ p - 1)) &&& f ∧ (s ||| (2 ^ p - 1)) &&& f ≤ s + (2 ^ p - 1) ∧ subN ((s ||| (2 ^ p - 1)) &&& f) f := by
  refine ⟨subN_le fun i hi => ?_, by rw [← he]; exact Nat.and_le_left, fun i hi => ?_⟩
  · rw [Nat.testBit_and, Nat.testBit_or, hi, hs i hi]; rfl
  · rw [Nat.testBit_and] at hi
    cases q : f.testBit i
    · rw [q, Bool.and_false] at hi; cases hi
    · rfl
theorem nextW_cut (f s : Int32) : nextW f s = nextW f (s &&& f) := by
  unfold nextW
  have e : s ||| (f ^^^ (-1)) = s &&& f ||| (f ^^^ (-1)) := tb_ext fun i hi => by
    rw [tb_or, tb_or, tb_and, tb_not _ hi]
    cases tb s i <;> cases tb f i <;> rfl
  rw [e]
theorem nI_and {a b : Nat} (ha : a < 2 ^ 32) (hb : b < 2 ^ 32) : nI a &&& nI b = nI (a &&& b) := by
  apply Int32.toBitVec_inj.mp
  apply BitVec.eq_of_toNat_eq
  rw [Int32.toBitVec_and, BitVec.toNat_and, pk_tn ha, pk_tn hb, pk_tn (Nat.lt_of_le_of_lt Nat.and_le_left ha)]
/-- what a set costs -/
def costN (p : Nat → Nat) (s : Nat) : Nat → Nat
  | 0 => 0
  | k + 1 => costN p s k + if s.testBit k = true then p k else 0
theorem costN_le {p : Nat → Nat} {n : Nat} (hp : ∀ k, k < n → p k ≤ 9) (s : Nat) : ∀ k, k ≤ n → costN p s k ≤ 9 * k
  | 0, _ => Nat.le_refl _
  | k + 1, h => by
    have := costN_le hp s k (by omega)
    have := hp k (by omega)
    show costN p s k + (if s.testBit k = true then p k else 0) ≤ 9 * (k + 1)
    split <;> omega
theorem costN_mono (p : Nat → Nat) {s u : Nat} (h : subN s u) : ∀ k, costN p s k ≤ costN p u k
  | 0 => Nat.le_refl _
  | k + 1 => by
    have ih := costN_mono p h k
    show costN p s k + (if s.testBit k = true then p k else 0) ≤ costN p u k + (if u.testBit k = true then p k else 0)
    by_cases q : s.testBit k = true
    · rw [if_pos q, if_pos (h k q)]; omega
    · rw [if_neg q]; omega
theorem costN_0 (p : Nat → Nat) : ∀ k, costN p 0 k = 0
  | 0 => rfl
  | k + 1 => by
    show costN p 0 k + (if (0 : Nat).testBit k = true then p k else 0) = 0
    rw [costN_0 p k, Nat.zero_testBit, if_neg (by decide)]
theorem sum_nat {row : Row} {p : Nat → Nat} {n : Nat} (hn : n ≤ 10) (hp : ∀ k, k < n → row k = nI (p k)) {s : Nat} (hs : s < 2 ^ 31) : ∀ k, k ≤ n → sumM row (nI s) k = nI (costN p s k)
  | 0, _ => rfl
  | k + 1, h => by
    show sumM row (nI s) k + bt (nI s) (nI k) * row k = nI (costN p s k + if s.testBit k = true then p k else 0)
    rw [sum_nat hn hp hs k (by omega), bt_tb _ (by omega), tb_nI hs, hp k (by omega)]
    by_cases q : s.testBit k = true
    · rw [if_pos q, if_pos q, Int32.one_mul, nI_add]
    · rw [if_neg q, if_neg q, Int32.zero_mul, Int32.add_zero, Nat.add_zero]
/-! the search: the class's recursion beside the reference's loop -/
abbrev kLk (S : Km) : Int32 := S.2.2.2.2.2.1
abbrev kSp (S : Km) : Bool := S.2.2.2.2.2.2.1
abbrev kBs (S : Km) : Int32 := S.2.2.2.2.2.2.2.1
abbrev kBo (S : Km) : Int32 := S.2.2.2.2.2.2.2.2.1
abbrev kTr (S : Km) : Row := S.2.2.2.2.2.2.2.2.2.1
abbrev kFa (S : Km) : Row := S.2.2.2.2.2.2.2.2.2.2.1
abbrev kGa (S : Km) : Row := S.2.2.2.2.2.2.2.2.2.2.2.1
abbrev kLa (S : Km) : Row := S.2.2.2.2.2.2.2.2.2.2.2.2.1
abbrev kBz (S : Km) : Row := S.2.2.2.2.2.2.2.2.2.2.2.2.2
def GoM (n : Nat) (bd : Int32) (ow : Row) (ke : Bool) (pr ne wo pz : Row) (X Y : Km) : Prop := ∃ N : Nat, itM n bd ow ke pr ne wo pz X N = Y ∧ ∀ k, k < N → ¬ doneM (itM n bd ow ke pr ne wo pz X k) ∧ okM (itM n bd ow ke pr ne wo pz X k)
section GOES
variable {n : Nat} {bd : Int32} {ow : Row} {ke : Bool} {pr ne wo pz : Row} {X Y Z S : Km}
theorem GoM.refl (X : Km) : GoM n bd ow ke pr ne wo pz X X := ⟨0, rfl, fun k h => absurd h (Nat.not_lt_zero _)⟩
theorem itM_add (X : Km) (a : Nat) : ∀ b, itM n bd ow ke pr ne wo pz X (a + b) = itM n bd ow ke pr ne wo pz (itM n bd ow ke pr ne wo pz X a) b
  | 0 => rfl
  | b + 1 => by
    show stepM n bd ow ke pr ne wo pz (itM n bd ow ke pr ne wo pz X (a + b)) = stepM n bd ow ke pr ne wo pz (itM n bd ow ke pr ne wo pz (itM n bd ow ke pr ne wo pz X a) b)
    rw [itM_add X a b]
theorem GoM.trans (h1 : GoM n bd ow ke pr ne wo pz X Y) (h2 : GoM n bd ow ke pr ne wo pz Y Z) : GoM n bd ow ke pr ne wo pz X Z := by
  obtain ⟨a, e1, p1⟩ := h1
  obtain ⟨b, e2, p2⟩ := h2
  refine ⟨a + b, by rw [itM_add, e1, e2], fun k hk => ?_⟩
  rcases Nat.lt_or_ge k a with q | q
  · exact p1 k q
  · obtain ⟨j, rfl⟩ : ∃ j, k = a + j := ⟨k - a, by omega⟩
    rw [itM_add, e1]
    exact p2 j (by omega)
theorem GoM.seekTo (h : GoM n bd ow ke pr ne wo pz X Y) (hd : doneM Y) : SeekTo n bd ow ke pr ne wo pz X Y := by
  obtain ⟨N, e, p⟩ := h
  refine ⟨N, e.symm, by rw [e]; exact hd, fun k hk => ?_⟩
  rcases Nat.lt_or_ge k N with q | q
  · exact (p k q).2
  · exfalso
    obtain ⟨j, rfl⟩ : ∃ j, k = N + j := ⟨k - N, by omega⟩
    exact hk (by rw [itM_stop (by rw [e]; exact hd) j, e]; exact hd)
theorem SeekTo.same (h1 : SeekTo n bd ow ke pr ne wo pz X Y) (h2 : SeekTo n bd ow ke pr ne wo pz X Z) : Y = Z := by
  obtain ⟨a, e1, d1, -⟩ := h1
  obtain ⟨b, e2, d2, -⟩ := h2
  rcases Nat.le_total a b with q | q
  · obtain ⟨j, rfl⟩ : ∃ j, b = a + j := ⟨b - a, by omega⟩
    rw [e1, e2, itM_stop d1 j]
  · obtain ⟨j, rfl⟩ : ∃ j, a = b + j := ⟨a - b, by omega⟩
    rw [e1, e2, itM_stop d2 j]
theorem GoM.one {t : Nat} (hT : S.1 = t) (h1 : 1 ≤ t) (h8 : t ≤ 8) (hs : kSp S = false) (hn : ¬ kTr S t < 0)
    (he : stepK n bd ow ke pr ne wo pz t S.2.2.2.2.1 (kLk S) false (kBs S) (kBo S) (kTr S) (kFa S) (kGa S) (kLa S) (kBz S) = Y) : GoM n bd ow ke pr ne wo pz S Y := by
  have h0 : ¬ S.1 = 0 := by omega
  have hsp : ¬ S.2.2.2.2.2.2.1 = true := by
    rw [show S.2.2.2.2.2.2.1 = false from hs]
    exact Bool.false_ne_true
  refine ⟨1, ?_, fun k hk => ?_⟩
  · show stepM n bd ow ke pr ne wo pz S = Y
    unfold stepM
    rw [if_neg h0, if_neg hsp, ← he, show S.2.2.2.2.2.2.1 = false from hs, hT]
  · have : k = 0 := by omega
    subst this
    refine ⟨fun q => q.elim h0 hsp, by show S.1 ≤ 8; omega, ?_⟩
    show ¬ kTr S S.1 < 0
    rw [hT]
    exact hn
end GOES
theorem upd_upd (f : Row) (k : Nat) (x y : Int32) : upd (upd f k x) k y = upd f k y := by
  funext j
  by_cases h : j = k
  · subst h; rw [pk_us, pk_us]
  · rw [pk_un h, pk_un h, pk_un h]
/-- what a goOn lays -/
def goV (v : Nat) : Int32 := if v = 0 then 1024 else nI v
theorem goF_nat {n t fr u : Nat} {tr fa ga : Row} (hf : freeI (nI n) (fa t) (ga t) = nI fr) (hfr : fr < 1024) (ht : tr t = nI u) (hu : subN u fr) : (if goN n t tr fa ga = 0 then 1024 else goN n t tr fa ga) = goV (nx 32 fr u) := by
  have e : goN n t tr fa ga = nI (nx 32 fr u) := by
    show nextW (freeI (nI n) (fa t) (ga t)) (tr t) = _
    rw [hf, ht, nextW_nat hfr hu]
  rw [e]
  unfold goV
  by_cases z : nx 32 fr u = 0
  · rw [if_pos z, z]; rfl
  · have : nx 32 fr u ≤ fr := subN_le (nx_next 32 fr u hu z).2
    rw [if_neg z, if_neg (nI_ne0 (by omega) (by omega))]
/-- the class's state beside the reference's -/
def SRel (b : Nat) (x : Ss) (S : Km) : Prop :=
  (∃ l, l ≤ b ∧ x.1 = nI l) ∧ kLk S = x.1 ∧ kSp S = x.2.2.2.1 ∧ kBs S = x.2.1 ∧ (x.2.1 = -1 ∨ ((∃ q, q ≤ 90 ∧ x.2.1 = nI q) ∧ kBo S = x.2.2.1 ∧ ∀ i, i < 8 → kBz S (i + 1) = x.2.2.2.2.2 i ∧ 0 ≤ x.2.2.2.2.2 i))
def LIn (n b t s fr m : Nat) (x : Ss) (S : Km) : Prop :=
  S.1 = t ∧ kSp S = false ∧ below n (kFa S t) ∧ kTr S t = nI s ∧ freeI (nI n) (kFa S t) (kGa S t) = nI fr ∧ fr ≤ allN n ∧ subN s fr ∧ kLa S t = nI m ∧ m ≤ 20 * t ∧ SRel b x S ∧ (∀ i, i + 1 < t → kTr S (i + 1) = x.2.2.2.2.1 i ∧ 0 ≤ x.2.2.2.2.1 i) ∧ (x.2.1 = -1 → s = 0 ∧ x.1 = nI (t - 1))
def LOut (n : Nat) (bd : Int32) (ow : Row) (ke : Bool) (pr ne wo pz : Row) (b t : Nat) (x X' : Ss) (S : Km) : Prop :=
  ∃ Y : Km, GoM n bd ow ke pr ne wo pz S Y ∧ SRel b X' Y ∧ X'.2.1 ≠ -1 ∧ (kSp Y = true ∨ (kSp Y = false ∧ Y.1 = t - 1 ∧ (∀ j, j < t → kFa Y j = kFa S j ∧ kGa Y j = kGa S j ∧ kLa Y j = kLa S j) ∧ (∀ i, i + 1 < t → X'.2.2.2.2.1 i = x.2.2.2.2.1 i) ∧ kTr Y (t - 1) = (if goN n (t - 1) (kTr S) (kFa S) (kGa S) = 0 then 1024 else goN n (t - 1) (kTr S) (kFa S) (kGa S)) ∧ ∀ j, j + 1 < t → kTr Y j = kTr S j))
section LEVELS
variable {n : Nat} {bd : Int32} {ow : Row} {ke : Bool} {pr ne wo pz : Row} {X Y Z S S1 : Km} {b t : Nat} {x x1 X' : Ss}
theorem LOut.back (ht : 1 ≤ t) (g : GoM n bd ow ke pr ne wo pz S S1) (hk : ∀ j, j < t → kFa S1 j = kFa S j ∧ kGa S1 j = kGa S j ∧ kLa S1 j = kLa S j) (htr : ∀ j, j < t → kTr S1 j = kTr S j) (hw : ∀ i, i + 1 < t → x1.2.2.2.2.1 i = x.2.2.2.2.1 i)
    (h : LOut n bd ow ke pr ne wo pz b t x1 X' S1) : LOut n bd ow ke pr ne wo pz b t x X' S := by
  obtain ⟨Y, g2, r, hne, h⟩ := h
  refine ⟨Y, g.trans g2, r, hne, h.imp id (fun ⟨h1, h2, h3, h4, h5, h6⟩ => ⟨h1, h2, fun j hj => ?_, fun i hi => (h4 i hi).trans (hw i hi), ?_, fun j hj => (h6 j hj).trans (htr j (by omega))⟩)⟩
  · obtain ⟨a1, a2, a3⟩ := h3 j hj
    obtain ⟨b1, b2, b3⟩ := hk j hj
    exact ⟨a1.trans b1, a2.trans b2, a3.trans b3⟩
  · have e : goN n (t - 1) (kTr S1) (kFa S1) (kGa S1) = goN n (t - 1) (kTr S) (kFa S) (kGa S) := by
      unfold goN
      rw [htr (t - 1) (by omega), (hk (t - 1) (by omega)).1, (hk (t - 1) (by omega)).2.1]
    rw [h5, e]
theorem lev_end (hn : n ≤ 10) (ht : 1 ≤ t) (h8 : t ≤ 8) (hT : S.1 = t) (hs : kSp S = false) (htr : kTr S t = 1024) (hr : SRel b x S) (hne : x.2.1 ≠ -1) : LOut n bd ow ke pr ne wo pz b t x x S := by
  have hall : ¬ (1024 : Int32) ≤ allI (nI n) := by
    rw [allI_nat hn, show (1024 : Int32) = nI 1024 from rfl, nI_leI (by omega) (by have := allN_le hn; omega)]
    have := allN_le hn
    omega
  refine ⟨(t - 1, kFa S t, kGa S t, kLa S t, S.2.2.2.2.1, kLk S, false, kBs S, kBo S, goF n (t - 1) (kTr S) (kFa S) (kGa S), kFa S, kGa S, kLa S, kBz S), GoM.one hT ht h8 hs (by rw [htr]; decide) (by rw [stepK, if_neg (by rw [htr]; exact hall)]), ⟨hr.1, hr.2.1, hs.symm.trans hr.2.2.1, hr.2.2.2.1, hr.2.2.2.2⟩, hne, Or.inr ⟨rfl, rfl, fun j _ => ⟨rfl, rfl, rfl⟩, fun i _ => rfl, ?_, fun j hj => ?_⟩⟩
  · show goF n (t - 1) (kTr S) (kFa S) (kGa S) (t - 1) = _
    unfold goF
    rw [pk_us]
  · show goF n (t - 1) (kTr S) (kFa S) (kGa S) j = _
    unfold goF
    rw [pk_un (by omega)]
end LEVELS
def KSame (S Y : Km) : Prop := kLk Y = kLk S ∧ kSp Y = kSp S ∧ kBs Y = kBs S ∧ kBo Y = kBo S ∧ kFa Y = kFa S ∧ kGa Y = kGa S ∧ kLa Y = kLa S ∧ kBz Y = kBz S
theorem KSame.rel {b : Nat} {x : Ss} {S Y : Km} (h : KSame S Y) (r : SRel b x S) : SRel b x Y := by
  obtain ⟨h1, h2, h3, h4, h5, h6, h7, h8⟩ := h
  obtain ⟨r1, r2, r3, r4, r5⟩ := r
  refine ⟨r1, h1.trans r2, h2.trans r3, h3.trans r4, r5.imp id (fun ⟨a, b, c⟩ => ⟨a, h4.trans b, fun i hi => ?_⟩)⟩
  rw [h8]
  exact c i hi
/-- sets that are too dear are passed over, one by one -/
theorem skip_sets {n : Nat} {bd : Int32} {ow : Row} {ke : Bool} {pr ne wo pz : Row} {t fr s L m : Nat} {p : Nat → Nat} (hn : n ≤ 10) (ht : 1 ≤ t) (h8 : t ≤ 8) (hfr : fr ≤ allN n) (hL : subN L fr) (hm : m < 2 ^ 31)
    (hpz : ∀ j, j ≤ allN n → pz j = sumM pr (nI j) n) (hp : ∀ k, k < n → pr k = nI (p k)) (hp9 : ∀ k, k < n → p k ≤ 9) (hc : ∀ u, s ≤ u → u ≤ L → m < costN p u n) :
    ∀ (d u : Nat) (S : Km), L - u ≤ d → S.1 = t → kSp S = false → kTr S t = nI u → subN u fr → s ≤ u → u ≤ L → freeI (nI n) (kFa S t) (kGa S t) = nI fr → kLa S t = nI m →
      ∃ Y : Km, GoM n bd ow ke pr ne wo pz S Y ∧ Y.1 = t ∧ KSame S Y ∧ kTr Y = upd (kTr S) t (goV (nx 32 fr L))
  | d, u, S, hd, hT, hs, htr, hu, hsu, huL, hf, hla => by
    have hall := allN_le hn
    have hu2 := subN_le hu
    have hc9 := costN_le hp9 u n (Nat.le_refl _)
    have hcu := hc u hsu huL
    have g : GoM n bd ow ke pr ne wo pz S (t, kFa S t, kGa S t, kLa S t, S.2.2.2.2.1, kLk S, false, kBs S, kBo S, goF n t (kTr S) (kFa S) (kGa S), kFa S, kGa S, kLa S, kBz S) := by
      refine GoM.one hT ht h8 hs (by rw [htr]; exact nI_pos (by omega)) ?_
      rw [stepK, if_pos (by rw [htr, allI_nat hn]; exact nI_le (by omega) (by omega)), if_neg (by rw [htr, nI_clamp (by omega), hpz u (by omega), sum_nat hn hp (by omega) n (Nat.le_refl _), hla]; exact nI_ge hcu (by omega))]
    have hgo : goF n t (kTr S) (kFa S) (kGa S) = upd (kTr S) t (goV (nx 32 fr u)) := by
      unfold goF
      rw [goF_nat hf (by omega) htr hu]
    rcases Nat.lt_or_ge u L with z | z
    · have h1 := nx_least 32 fr u L hu hL z (by have := subN_le hL; omega)
      have h2 := nx_next 32 fr u hu h1.1
      cases d with
      | zero => omega
      | succ d =>
        obtain ⟨Y, g2, y1, y2, y3⟩ := skip_sets hn ht h8 hfr hL hm hpz hp hp9 hc d (nx 32 fr u) (t, kFa S t, kGa S t, kLa S t, S.2.2.2.2.1, kLk S, false, kBs S, kBo S, goF n t (kTr S) (kFa S) (kGa S), kFa S, kGa S, kLa S, kBz S) (by omega) rfl rfl
          (by show goF n t (kTr S) (kFa S) (kGa S) t = _; rw [hgo, pk_us]; unfold goV; rw [if_neg h1.1]) h2.2 (by omega) h1.2 hf hla
        refine ⟨Y, g.trans g2, y1, ?_, ?_⟩
        · obtain ⟨q1, q2, q3, q4, q5, q6, q7, q8⟩ := y2
          exact ⟨q1, q2.trans hs.symm, q3, q4, q5, q6, q7, q8⟩
        · rw [y3]
          show upd (goF n t (kTr S) (kFa S) (kGa S)) t _ = _
          rw [hgo, upd_upd]
    · have : u = L := by omega
      subst this
      exact ⟨_, g, rfl, ⟨rfl, hs.symm, rfl, rfl, rfl, rfl, rfl, rfl⟩, hgo⟩
theorem seekL_spent {lk : Int32 → Int32 → Ss → Ss} {pr : Row} {free money : Int32} {x : Ss} (h : x.2.2.2.1 = true) : ∀ (F : Nat) (set : Int32), seekL lk pr free money F set x = x
  | 0, _ => rfl
  | F + 1, set => by rw [seekL, if_pos h]
/-- the burning on without more guards -/
theorem judge_end {n : Nat} {ne ne' : Row} (hn : n ≤ 10) (hne : ∀ k, k < n → ne k = ne' k) (hbl : ∀ k, k < n → below n (ne' k)) (gu : Int32) : ∀ (k' k o : Nat) (f : Int32) (e : Nat × Int32), below n f → n - cntB f n < k → endL n ne' gu k' o f = some e → judgeL ne gu k o f = e ∧ below n e.2 ∧ nearM n ne' e.2 gu = 0
  | 0, _, _, _, _, _, _, h => by cases h
  | k' + 1, k, o, f, e, hf, hk, h => by
    obtain ⟨j, rfl⟩ : ∃ j, k = j + 1 := ⟨k - 1, by omega⟩
    rw [endL] at h
    rw [judgeL, thr_eq hn hne hf]
    by_cases q : nearM n ne' f gu = 0
    · rw [if_pos q] at h ⊢
      cases h
      exact ⟨rfl, hf, q⟩
    · rw [if_neg q] at h ⊢
      have h1 := near_more hn hbl q
      have h2 := cntB_le (f ||| nearM n ne' f gu) n
      exact judge_end hn hne hbl gu k' j (o + 1) _ e (below_or hf (below_thr hbl)) (by omega) h
theorem fill_nat {ow : Row} {o : Nat → Nat} (ho : ∀ t, 1 ≤ t → t ≤ 8 → ow t = nI (o t) ∧ o t ≤ 20) (ke : Bool) {t : Nat} (h1 : 1 ≤ t) (h8 : t ≤ 8) (m : Nat) : ∃ m', m' ≤ 20 + m ∧ fillM ow ke t (nI m) = nI m' := by
  unfold fillM
  have hz : (0 : Int32) = nI 0 := rfl
  cases ke with
  | true =>
    rw [if_pos rfl]
    split
    · exact ⟨m + o t, by have := (ho t h1 h8).2; omega, by rw [(ho t h1 h8).1, nI_add]⟩
    · exact ⟨m + o 8, by have := (ho 8 (by omega) (by omega)).2; omega, by rw [(ho 8 (by omega) (by omega)).1, nI_add]⟩
  | false =>
    rw [if_neg Bool.false_ne_true]
    split
    · exact ⟨o t, by have := (ho t h1 h8).2; omega, by rw [(ho t h1 h8).1, Int32.zero_add]⟩
    · exact ⟨o 8, by have := (ho 8 (by omega) (by omega)).2; omega, by rw [(ho 8 (by omega) (by omega)).1, Int32.zero_add]⟩
theorem saved_nat {wo : Row} {q : Nat → Nat} {n : Nat} (hn : n ≤ 10) (hq : ∀ k, k < n → wo k = nI (q k)) (hq9 : ∀ k, k < n → q k ≤ 9) (f : Int32) : ∃ Q, Q ≤ 90 ∧ savedM n wo f = nI Q := by
  obtain ⟨z, hz, e⟩ := small_of (below_and (y := f ^^^ (-1)) (below_all hn))
  have h2 : 2 ^ n ≤ 2 ^ 10 := Nat.pow_le_pow_right (by decide) hn
  refine ⟨costN q z n, by have := costN_le hq9 z n (Nat.le_refl _); omega, ?_⟩
  unfold savedM
  rw [e]
  exact sum_nat hn hq (by omega) n (Nat.le_refl _)
theorem set_below {n s : Nat} (h : s ≤ allN n) : below n (nI s) := fun i hi => by
  have hp : 0 < 2 ^ n := Nat.pow_pos (by decide)
  by_cases h32 : i < 32
  · by_cases hs : s < 2 ^ 31
    · rw [tb_nI hs]
      exact Nat.testBit_lt_two_pow (Nat.lt_of_lt_of_le (by unfold allN at h; omega) (Nat.pow_le_pow_right (by decide) hi))
    · exfalso
      have : 2 ^ n ≤ 2 ^ 31 := Nat.pow_le_pow_right (by decide) (by omega)
      unfold allN at h
      omega
  · exact tb_big (by omega)
theorem free_nat {n : Nat} (hn : n ≤ 10) (bu gu : Int32) : ∃ fr, fr ≤ allN n ∧ freeI (nI n) bu gu = nI fr := by
  obtain ⟨z, hz, e⟩ := small_of (n := n) (x := freeI (nI n) bu gu) (below_and (below_and (below_all hn)))
  exact ⟨z, by unfold allN; omega, e⟩
/-- what both sides rest on -/
def SHyp (n b : Nat) (pr pr' ne ne' wo wo' ow ow' : Row) (ke : Int32) (ke' : Bool) (bd : Int32) (pz : Row) (p q o : Nat → Nat) : Prop :=
  n ≤ 10 ∧ (∀ k, k < n → pr k = pr' k) ∧ (∀ k, k < n → ne k = ne' k) ∧ (∀ k, k < n → wo k = wo' k) ∧ (∀ k, k < n → below n (ne' k)) ∧ (∀ k, k < n → pr' k = nI (p k)) ∧ (∀ k, k < n → p k ≤ 9) ∧ (∀ k, k < n → wo' k = nI (q k)) ∧ (∀ k, k < n → q k ≤ 9) ∧
  (∀ t, t < 8 → ow t = ow' (t + 1)) ∧ (∀ t, 1 ≤ t → t ≤ 8 → ow' t = nI (o t) ∧ o t ≤ 20) ∧ (ke = 1 ↔ ke' = true) ∧ bd = nI b ∧ 50 ≤ b ∧ b ≤ 1000 ∧ (∀ j, j ≤ allN n → pz j = sumM pr' (nI j) n)
/-! the search, a level -/
theorem lev_in {n b : Nat} {pr pr' ne ne' wo wo' ow ow' : Row} {ke : Int32} {ke' : Bool} {bd : Int32} {pz : Row} {p q o : Nat → Nat} (H : SHyp n b pr pr' ne ne' wo wo' ow ow' ke ke' bd pz p q o) {t d : Nat} (ht : 1 ≤ t) (h8 : t ≤ 8) {bu gu : Int32}
    (rec : t < 8 → ∀ (fr m : Nat) (x : Ss) (S : Km), LIn n b (t + 1) 0 fr m x S → LOut n bd ow' ke' pr' ne' wo' pz b (t + 1) x (seekF (nI n) wo pr ne ow ke bd d (t + 1) (kFa S (t + 1)) (kGa S (t + 1)) (nI m) x) S) :
    ∀ (F s fr m : Nat) (x : Ss) (S : Km), kFa S t = bu → kGa S t = gu → LIn n b t s fr m x S → 1024 ≤ s + F → LOut n bd ow' ke' pr' ne' wo' pz b t x (seekL (fun set left x => lookF (seekF (nI n) wo pr ne ow ke bd d) (nI n) wo ne ow ke bd t bu gu set left x) pr (nI fr) (nI m) F (nI s) x) S := by
  obtain ⟨hn, hpr, hne, hwo, hbl, hp, hp9, hq, hq9, ho, hoN, hke, hbd, hb50, hb1000, hpz⟩ := H
  have hall := allN_le hn
  intro F
  induction F with
  | zero =>
    intro s fr m x S _ _ hin hF
    obtain ⟨-, -, -, -, -, h6, h7, -⟩ := hin
    have := subN_le h7
    omega
  | succ F ih =>
    intro s fr m x S hbu hgu hin hF
    obtain ⟨hT, hsp, hbel, htr, hfr, hfrn, hsub, hla, hm, hrel, hway, hneg⟩ := hin
    have hs2 := subN_le hsub
    have hbs : below n (nI s) := set_below (by omega)
    have hcost : sumM pr' (nI s) n = nI (costN p s n) := sum_nat hn hp (by omega) n (Nat.le_refl _)
    have hcost10 : sumI pr (nI s) 10 = nI (costN p s n) := by rw [sum_ten hn hpr hbs, hcost]
    have hc90 := costN_le hp9 s n (Nat.le_refl _)
    have hxs : ¬ x.2.2.2.1 = true := by
      rw [← hrel.2.2.1, hsp]
      exact Bool.false_ne_true
    -- going on behind a set
    have cont : ∀ (L : Nat) (x1 : Ss) (Y : Km), s ≤ L → subN L fr → GoM n bd ow' ke' pr' ne' wo' pz S Y → Y.1 = t → kSp Y = false → kTr Y t = goV (nx 32 fr L) → (∀ j, j ≤ t → kFa Y j = kFa S j ∧ kGa Y j = kGa S j ∧ kLa Y j = kLa S j) → (∀ j, j < t → kTr Y j = kTr S j) → (∀ i, i + 1 < t → x1.2.2.2.2.1 i = x.2.2.2.2.1 i) → SRel b x1 Y → x1.2.1 ≠ -1 →
        LOut n bd ow' ke' pr' ne' wo' pz b t x (if nI (nx 32 fr L) = 0 then x1 else seekL (fun set left x => lookF (seekF (nI n) wo pr ne ow ke bd d) (nI n) wo ne ow ke bd t bu gu set left x) pr (nI fr) (nI m) F (nI (nx 32 fr L)) x1) S := by
      intro L x1 Y hsL hL g y1 y2 y3 yk ytr yw yr yn
      by_cases z : nx 32 fr L = 0
      · rw [if_pos (by rw [z]; rfl)]
        refine LOut.back ht g (fun j hj => yk j (by omega)) ytr yw (lev_end hn ht h8 y1 y2 ?_ yr yn)
        rw [y3, goV, if_pos z]
      · have h1 := nx_next 32 fr L hL z
        have h2 := subN_le h1.2
        rw [if_neg (nI_ne0 (by omega) (by omega))]
        obtain ⟨k1, k2, k3⟩ := yk t (Nat.le_refl _)
        refine LOut.back ht g (fun j hj => yk j (by omega)) ytr yw (ih (nx 32 fr L) fr m x1 Y (k1.trans hbu) (k2.trans hgu) ⟨y1, y2, by rw [k1]; exact hbel, ?_, by rw [k1, k2]; exact hfr, hfrn, h1.2, k3.trans hla, hm, yr, fun i hi => ?_, fun w => absurd w yn⟩ (by omega))
        · rw [y3, goV, if_neg z]
        · rw [ytr (i + 1) hi, yw i hi]
          exact hway i hi
    have hfr1024 : fr < 1024 := by omega
    have hnext : nextW (nI fr) (nI s) = nI (nx 32 fr s) := nextW_nat hfr1024 hsub
    have hgo : goF n t (kTr S) (kFa S) (kGa S) = upd (kTr S) t (goV (nx 32 fr s)) := by
      unfold goF
      rw [goF_nat hfr hfr1024 htr hsub]
    have hrel0 := hrel
    obtain ⟨⟨l, hl, hxl⟩, hlk, hspE, hbsE, hrest⟩ := hrel
    have hfree : freeI (nI n) bu gu = nI fr := by rw [← hbu, ← hgu]; exact hfr
    rw [seekL, if_neg hxs, hcost10]
    by_cases hc : m < costN p s n
    · -- too dear
      have hs0 : s ≠ 0 := fun z => by
        rw [z, costN_0] at hc
        omega
      rw [if_pos (pk_sneg (by omega) hc)]
      obtain ⟨e0, hpp, e1, e2, e3⟩ := last_nat s (by omega) hs0
      obtain ⟨c1, c2, c3⟩ := last_cut hsub e2
      have c4 := subN_le c3
      have hp2 : 2 ^ e0 ≤ 2 ^ 10 := Nat.pow_le_pow_right (by decide) (by omega)
      have hnw : nextW (nI fr) (lastAb (nI s)) = nI (nx 32 fr ((s ||| (2 ^ e0 - 1)) &&& fr)) := by
        rw [e1, nextW_cut, nI_and (by rw [e2]; omega) (by omega), nextW_nat hfr1024 c3]
      rw [hnw]
      obtain ⟨Y, g, y1, y2, y3⟩ := skip_sets (bd := bd) (ow := ow') (ke := ke') (ne := ne') (wo := wo') (s := s) hn ht h8 hfrn c3 (show m < 2 ^ 31 by omega) hpz hp hp9 (fun u h1 h2 => Nat.lt_of_lt_of_le hc (costN_mono p (last_sub e3 h1 (by omega)) n)) _ s S (Nat.le_refl _) hT hsp htr hsub (Nat.le_refl _) c1 hfr hla
      have y2' := y2
      obtain ⟨q1, q2, q3, q4, q5, q6, q7, q8⟩ := y2
      refine cont _ x Y c1 c3 g y1 (q2.trans hsp) (by rw [y3, pk_us]) (fun j _ => ⟨by rw [q5], by rw [q6], by rw [q7]⟩) (fun j hj => by rw [y3, pk_un (by omega)]) (fun i _ => rfl) (y2'.rel hrel0) (fun w => hs0 (hneg w).1)
    · -- a look
      rw [if_neg (by rw [pk_sub (by omega)]; exact nI_pos (by omega)), pk_sub (by omega), hnext]
      show LOut n bd ow' ke' pr' ne' wo' pz b t x (if nI (nx 32 fr s) = 0 then lookF (seekF (nI n) wo pr ne ow ke bd d) (nI n) wo ne ow ke bd t bu gu (nI s) (nI (m - costN p s n)) x else seekL _ pr (nI fr) (nI m) F (nI (nx 32 fr s)) (lookF (seekF (nI n) wo pr ne ow ke bd d) (nI n) wo ne ow ke bd t bu gu (nI s) (nI (m - costN p s n)) x)) S
      have hle : kTr S t ≤ allI (nI n) := by
        rw [htr, allI_nat hn]
        exact nI_le (by omega) (by omega)
      have hpay : pz (kTr S t).toNatClampNeg ≤ kLa S t := by
        rw [htr, nI_clamp (by omega), hpz s (by omega), hcost, hla]
        exact nI_le (by omega) (by omega)
      have hpos : ¬ kTr S t < 0 := by rw [htr]; exact nI_pos (by omega)
      unfold lookF
      by_cases hl2 : l < b
      · have hlt : x.1 < bd := by
          rw [hxl, hbd]
          exact nI_lt hl2 (by omega)
        have hlkb : ¬ kLk S = bd := by
          rw [hlk, hxl, hbd, nI_eq (by omega) (by omega)]
          omega
        have hl1 : x.1 + 1 = nI (l + 1) := by rw [hxl, nI_1]
        rw [if_pos hlt]
        have hbel' : below n bu := by rw [← hbu]; exact hbel
        rw [thr_eq hn hne hbel']
        by_cases hdn : ¬ nearM n ne' bu (gu ||| nI s) = 0 ∧ t < 8
        · rw [if_pos hdn]
          obtain ⟨m', hm', hfm⟩ := fill_nat hoN ke' (show 1 ≤ t + 1 by omega) (show t + 1 ≤ 8 by omega) (m - costN p s n)
          obtain ⟨fr', hfr', efr⟩ := free_nat hn (bu ||| nearM n ne' bu (gu ||| nI s)) (gu ||| nI s)
          rw [fill_eq ho hke (show 1 ≤ t + 1 by omega), hfm]
          obtain ⟨Y1, hY1⟩ : ∃ Y1 : Km, Y1 = (t + 1, bu ||| nearM n ne' bu (gu ||| nI s), gu ||| nI s, nI m', S.2.2.2.2.1 + nI (costN p s n), kLk S + 1, false, kBs S, kBo S, upd (kTr S) (t + 1) 0, upd (kFa S) (t + 1) (bu ||| nearM n ne' bu (gu ||| nI s)), upd (kGa S) (t + 1) (gu ||| nI s), upd (kLa S) (t + 1) (nI m'), kBz S) := ⟨_, rfl⟩
          have g : GoM n bd ow' ke' pr' ne' wo' pz S Y1 := by
            refine GoM.one hT ht h8 hsp hpos ?_
            rw [stepK, if_pos hle, if_pos hpay, if_neg hlkb, if_pos (by rw [hbu, hgu, htr]; exact hdn), hbu, hgu, htr, hla, hcost, pk_sub (by omega), hfm, hY1]
          have yT : Y1.1 = t + 1 := by rw [hY1]
          have ySp : kSp Y1 = false := by rw [hY1]
          have yLk : kLk Y1 = kLk S + 1 := by rw [hY1]
          have yBs : kBs Y1 = kBs S := by rw [hY1]
          have yBo : kBo Y1 = kBo S := by rw [hY1]
          have yBz : kBz Y1 = kBz S := by rw [hY1]
          have yTr : kTr Y1 = upd (kTr S) (t + 1) 0 := by rw [hY1]
          have yFa : kFa Y1 = upd (kFa S) (t + 1) (bu ||| nearM n ne' bu (gu ||| nI s)) := by rw [hY1]
          have yGa : kGa Y1 = upd (kGa S) (t + 1) (gu ||| nI s) := by rw [hY1]
          have yLa : kLa Y1 = upd (kLa S) (t + 1) (nI m') := by rw [hY1]
          clear hY1
          obtain ⟨x1, hx1⟩ : ∃ x1 : Ss, x1 = (x.1 + 1, x.2.1, x.2.2.1, x.2.2.2.1, upd x.2.2.2.2.1 (t - 1) (nI s), x.2.2.2.2.2) := ⟨_, rfl⟩
          have x1a : x1.1 = x.1 + 1 := by rw [hx1]
          have x1b : x1.2.1 = x.2.1 := by rw [hx1]
          have x1c : x1.2.2.1 = x.2.2.1 := by rw [hx1]
          have x1d : x1.2.2.2.1 = x.2.2.2.1 := by rw [hx1]
          have x1e : x1.2.2.2.2.1 = upd x.2.2.2.2.1 (t - 1) (nI s) := by rw [hx1]
          have x1f : x1.2.2.2.2.2 = x.2.2.2.2.2 := by rw [hx1]
          rw [← hx1]
          clear hx1
          have hin' : LIn n b (t + 1) 0 fr' m' x1 Y1 := by
            refine ⟨yT, ySp, ?_, ?_, ?_, hfr', ?_, ?_, by omega, ⟨⟨l + 1, by omega, by rw [x1a]; exact hl1⟩, ?_, ?_, ?_, ?_⟩, ?_, ?_⟩
            · rw [yFa, pk_us]
              exact below_or hbel' (below_thr hbl)
            · rw [yTr, pk_us]
              rfl
            · rw [yFa, yGa, pk_us, pk_us]
              exact efr
            · intro i hi
              rw [Nat.zero_testBit] at hi
              cases hi
            · rw [yLa, pk_us]
            · rw [yLk, x1a, hlk]
            · rw [ySp, x1d, ← hspE, hsp]
            · rw [yBs, x1b]
              exact hbsE
            · rw [x1b, x1c, x1f, yBo, yBz]
              exact hrest
            · intro i hi
              rw [yTr, x1e, pk_un (f := kTr S) (by omega)]
              by_cases z : i = t - 1
              · rw [z, pk_us, show t - 1 + 1 = t by omega]
                exact ⟨htr, nI_pos' (by omega)⟩
              · rw [pk_un z]
                exact hway i (by omega)
            · intro w
              rw [x1b] at w
              refine ⟨rfl, ?_⟩
              rw [x1a, (hneg w).2, nI_1, show t - 1 + 1 = t + 1 - 1 by omega]
          have r := rec hdn.2 fr' m' x1 Y1 hin'
          rw [show kFa Y1 (t + 1) = bu ||| nearM n ne' bu (gu ||| nI s) by rw [yFa, pk_us], show kGa Y1 (t + 1) = gu ||| nI s by rw [yGa, pk_us]] at r
          generalize seekF (nI n) wo pr ne ow ke bd d (t + 1) (bu ||| nearM n ne' bu (gu ||| nI s)) (gu ||| nI s) (nI m') x1 = x2 at r ⊢
          obtain ⟨Y2, g2, r2, n2, h2⟩ := r
          rcases h2 with hsp2 | ⟨hsp2, hT2, hk2, hw2, htr2, htr3⟩
          · have hx2 : x2.2.2.2.1 = true := by rw [← r2.2.2.1]; exact hsp2
            have e : (if nI (nx 32 fr s) = 0 then x2 else seekL (fun set left x => lookF (seekF (nI n) wo pr ne ow ke bd d) (nI n) wo ne ow ke bd t bu gu set left x) pr (nI fr) (nI m) F (nI (nx 32 fr s)) x2) = x2 := by
              split
              · rfl
              · exact seekL_spent hx2 _ _
            show LOut n bd ow' ke' pr' ne' wo' pz b t x (if nI (nx 32 fr s) = 0 then x2 else seekL (fun set left x => lookF (seekF (nI n) wo pr ne ow ke bd d) (nI n) wo ne ow ke bd t bu gu set left x) pr (nI fr) (nI m) F (nI (nx 32 fr s)) x2) S
            rw [e]
            exact ⟨Y2, g.trans g2, r2, n2, Or.inl hsp2⟩
          · refine cont s x2 Y2 (Nat.le_refl _) hsub (g.trans g2) (by omega) hsp2 ?_ (fun j hj => ?_) (fun j hj => ?_) (fun i hi => ?_) r2 n2
            · rw [show t + 1 - 1 = t by omega, yTr, yFa, yGa] at htr2
              rw [htr2]
              have e : goN n t (upd (kTr S) (t + 1) 0) (upd (kFa S) (t + 1) (bu ||| nearM n ne' bu (gu ||| nI s))) (upd (kGa S) (t + 1) (gu ||| nI s)) = goN n t (kTr S) (kFa S) (kGa S) := by
                unfold goN
                rw [pk_un (by omega), pk_un (by omega), pk_un (by omega)]
              rw [e, goF_nat hfr hfr1024 htr hsub]
            · obtain ⟨a1, a2, a3⟩ := hk2 j (by omega)
              rw [a1, a2, a3, yFa, yGa, yLa, pk_un (by omega), pk_un (by omega), pk_un (by omega)]
              exact ⟨rfl, rfl, rfl⟩
            · rw [htr3 j (by omega), yTr, pk_un (by omega)]
            · rw [hw2 i (by omega), x1e, pk_un (by omega)]
        · rw [if_neg hdn]
          obtain ⟨e, he⟩ := endOK hn hbl (gu ||| nI s) t bu
          obtain ⟨j1, j2, j3⟩ := judge_end hn hne hbl (gu ||| nI s) 33 (20 - t) t bu e hbel' (by omega) he
          obtain ⟨Q, hQ, eQ⟩ := saved_nat hn hq hq9 e.2
          unfold judgeF
          rw [j1, saved_eq hn hwo, eQ]
          have hend : endL n ne' (kGa S t ||| kTr S t) 33 t (kFa S t) = some e := by rw [hgu, htr, hbu]; exact he
          have hstep : stepK n bd ow' ke' pr' ne' wo' pz t S.2.2.2.2.1 (kLk S) false (kBs S) (kBo S) (kTr S) (kFa S) (kGa S) (kLa S) (kBz S) = stepE n pr' ne' wo' t S.2.2.2.2.1 (kLk S) false (kBs S) (kBo S) (kTr S) (kFa S) (kGa S) (kLa S) (kBz S) := by
            rw [stepK, if_pos hle, if_pos hpay, if_neg hlkb, if_neg (by rw [hbu, hgu, htr]; exact hdn)]
          have hE : stepE n pr' ne' wo' t S.2.2.2.2.1 (kLk S) false (kBs S) (kBo S) (kTr S) (kFa S) (kGa S) (kLa S) (kBz S) = if kBs S < nI Q then
              (t, e.2, kGa S t ||| kTr S t, kLa S t - sumM pr' (kTr S t) n, S.2.2.2.2.1 + sumM pr' (kTr S t) n, kLk S + 1, false, nI Q, nI e.1, goF n t (kTr S) (kFa S) (kGa S), kFa S, kGa S, kLa S, cmpF (kTr S) (kBz S) t 8)
              else (t, e.2, kGa S t ||| kTr S t, kLa S t - sumM pr' (kTr S t) n, S.2.2.2.2.1 + sumM pr' (kTr S t) n, kLk S + 1, false, kBs S, kBo S, goF n t (kTr S) (kFa S) (kGa S), kFa S, kGa S, kLa S, kBz S) := by
            unfold stepE
            rw [hend]
            show (if kBs S < savedM n wo' (e.2 ||| nearM n ne' e.2 (kGa S t ||| kTr S t)) then (t, e.2 ||| nearM n ne' e.2 (kGa S t ||| kTr S t), kGa S t ||| kTr S t, kLa S t - sumM pr' (kTr S t) n, S.2.2.2.2.1 + sumM pr' (kTr S t) n, kLk S + 1, false, savedM n wo' (e.2 ||| nearM n ne' e.2 (kGa S t ||| kTr S t)), nI e.1, goF n t (kTr S) (kFa S) (kGa S), kFa S, kGa S, kLa S, cmpF (kTr S) (kBz S) t 8) else (t, e.2 ||| nearM n ne' e.2 (kGa S t ||| kTr S t), kGa S t ||| kTr S t, kLa S t - sumM pr' (kTr S t) n, S.2.2.2.2.1 + sumM pr' (kTr S t) n, kLk S + 1, false, kBs S, kBo S, goF n t (kTr S) (kFa S) (kGa S), kFa S, kGa S, kLa S, kBz S)) = _
            have z : nearM n ne' e.2 (kGa S t ||| kTr S t) = 0 := by rw [hgu, htr]; exact j3
            rw [z, Int32.or_zero, eQ]
          by_cases hbet : x.2.1 < nI Q
          · rw [if_pos hbet]
            rw [if_pos (by rw [hbsE]; exact hbet)] at hE
            refine cont s (x.1 + 1, nI Q, nI e.1, x.2.2.2.1, upd x.2.2.2.2.1 (t - 1) (nI s), keptA (upd x.2.2.2.2.1 (t - 1) (nI s)) x.2.2.2.2.2 t 8) _ (Nat.le_refl _) hsub (GoM.one hT ht h8 hsp hpos (hstep.trans hE)) rfl rfl ?_ (fun j _ => ⟨rfl, rfl, rfl⟩) (fun j hj => ?_) (fun i hi => ?_) ⟨⟨l + 1, by omega, hl1⟩, ?_, ?_, rfl, Or.inr ⟨⟨Q, hQ, rfl⟩, rfl, fun i hi => ?_⟩⟩ ?_
            · show goF n t (kTr S) (kFa S) (kGa S) t = _
              rw [hgo, pk_us]
            · show goF n t (kTr S) (kFa S) (kGa S) j = _
              rw [hgo, pk_un (by omega)]
            · show upd x.2.2.2.2.1 (t - 1) (nI s) i = _
              rw [pk_un (by omega)]
            · show kLk S + 1 = x.1 + 1
              rw [hlk]
            · show false = x.2.2.2.1
              rw [← hspE, hsp]
            · show cmpF (kTr S) (kBz S) t 8 (i + 1) = keptA (upd x.2.2.2.2.1 (t - 1) (nI s)) x.2.2.2.2.2 t 8 i ∧ 0 ≤ keptA (upd x.2.2.2.2.1 (t - 1) (nI s)) x.2.2.2.2.2 t 8 i
              unfold cmpF keptA
              rw [if_pos (show 1 ≤ i + 1 ∧ i + 1 ≤ 8 by omega), if_pos hi]
              by_cases w : i < t
              · rw [if_pos (show i + 1 ≤ t by omega), if_pos w]
                by_cases z : i = t - 1
                · rw [z, pk_us, show t - 1 + 1 = t by omega]
                  exact ⟨htr, nI_pos' (by omega)⟩
                · rw [pk_un z]
                  exact hway i (by omega)
              · rw [if_neg (show ¬ i + 1 ≤ t by omega), if_neg w]
                exact ⟨rfl, by decide⟩
            · intro w
              have : ¬ nI Q < 0 := nI_pos (by omega)
              rw [show nI Q = -1 from w] at this
              exact this (by decide)
          · rw [if_neg hbet]
            rw [if_neg (by rw [hbsE]; exact hbet)] at hE
            have hx1 : x.2.1 ≠ -1 := fun w => hbet (by
              rw [w]
              exact Int32.lt_of_lt_of_le (by decide) (nI_pos' (n := Q) (by omega)))
            refine cont s (x.1 + 1, x.2.1, x.2.2.1, x.2.2.2.1, upd x.2.2.2.2.1 (t - 1) (nI s), x.2.2.2.2.2) _ (Nat.le_refl _) hsub (GoM.one hT ht h8 hsp hpos (hstep.trans hE)) rfl rfl ?_ (fun j _ => ⟨rfl, rfl, rfl⟩) (fun j hj => ?_) (fun i hi => ?_) ⟨⟨l + 1, by omega, hl1⟩, ?_, ?_, hbsE, hrest⟩ hx1
            · show goF n t (kTr S) (kFa S) (kGa S) t = _
              rw [hgo, pk_us]
            · show goF n t (kTr S) (kFa S) (kGa S) j = _
              rw [hgo, pk_un (by omega)]
            · show upd x.2.2.2.2.1 (t - 1) (nI s) i = _
              rw [pk_un (by omega)]
            · show kLk S + 1 = x.1 + 1
              rw [hlk]
            · show false = x.2.2.2.1
              rw [← hspE, hsp]
      · -- spent
        have hlb : l = b := by omega
        rw [if_neg (show ¬ x.1 < bd by rw [hxl, hbd]; exact nI_nlt (by omega) (by omega))]
        have e : (if nI (nx 32 fr s) = 0 then (x.1, x.2.1, x.2.2.1, true, x.2.2.2.2.1, x.2.2.2.2.2) else seekL (fun set left x => lookF (seekF (nI n) wo pr ne ow ke bd d) (nI n) wo ne ow ke bd t bu gu set left x) pr (nI fr) (nI m) F (nI (nx 32 fr s)) (x.1, x.2.1, x.2.2.1, true, x.2.2.2.2.1, x.2.2.2.2.2)) = (x.1, x.2.1, x.2.2.1, true, x.2.2.2.2.1, x.2.2.2.2.2) := by
          split
          · rfl
          · exact seekL_spent rfl _ _
        show LOut n bd ow' ke' pr' ne' wo' pz b t x (if nI (nx 32 fr s) = 0 then (x.1, x.2.1, x.2.2.1, true, x.2.2.2.2.1, x.2.2.2.2.2) else seekL (fun set left x => lookF (seekF (nI n) wo pr ne ow ke bd d) (nI n) wo ne ow ke bd t bu gu set left x) pr (nI fr) (nI m) F (nI (nx 32 fr s)) (x.1, x.2.1, x.2.2.1, true, x.2.2.2.2.1, x.2.2.2.2.2)) S
        rw [e]
        refine ⟨(t, kFa S t, kGa S t, kLa S t, S.2.2.2.2.1, kLk S, true, kBs S, kBo S, kTr S, kFa S, kGa S, kLa S, kBz S), GoM.one hT ht h8 hsp hpos ?_, ⟨⟨l, hl, hxl⟩, hlk, rfl, hbsE, hrest⟩, fun w => ?_, Or.inl rfl⟩
        · rw [stepK, if_pos hle, if_pos hpay, if_pos (by rw [hlk, hxl, hbd, hlb])]
        · have := (hneg w).2
          rw [hxl, nI_eq (by omega) (by omega)] at this
          omega
/-- every level -/
theorem lev_all {n b : Nat} {pr pr' ne ne' wo wo' ow ow' : Row} {ke : Int32} {ke' : Bool} {bd : Int32} {pz : Row} {p q o : Nat → Nat} (H : SHyp n b pr pr' ne ne' wo wo' ow ow' ke ke' bd pz p q o) :
    ∀ (d t : Nat), t + d = 8 → 1 ≤ t → ∀ (fr m : Nat) (x : Ss) (S : Km), LIn n b t 0 fr m x S → LOut n bd ow' ke' pr' ne' wo' pz b t x (seekF (nI n) wo pr ne ow ke bd (d + 1) t (kFa S t) (kGa S t) (nI m) x) S
  | d, t, hd, ht, fr, m, x, S, hin => by
    have e : seekF (nI n) wo pr ne ow ke bd (d + 1) t (kFa S t) (kGa S t) (nI m) x = seekL (fun set left x => lookF (seekF (nI n) wo pr ne ow ke bd d) (nI n) wo ne ow ke bd t (kFa S t) (kGa S t) set left x) pr (nI fr) (nI m) 1024 (nI 0) x := by
      rw [seekF, hin.2.2.2.2.1]
      rfl
    rw [e]
    refine lev_in H ht (by omega) (d := d) (fun h8 fr' m' x' S' hin' => ?_) 1024 0 fr m x S rfl rfl hin (by omega)
    cases d with
    | zero => omega
    | succ d => exact lev_all H d (t + 1) (by omega) (by omega) fr' m' x' S' hin'
/-- the whole search -/
theorem seek_top {n b : Nat} {pr pr' ne ne' wo wo' ow ow' : Row} {ke : Int32} {ke' : Bool} {bd : Int32} {pz : Row} {p q o : Nat → Nat} (H : SHyp n b pr pr' ne ne' wo wo' ow ow' ke ke' bd pz p q o) {d : Nat} (hd : 1 + d = 8) {fire : Int32} (hf : below n fire) (ov : Int32) (way kept tr fa ga la bz : Row) :
    ∃ Y : Km, SeekTo n bd ow' ke' pr' ne' wo' pz (x0M ow' ke' fire tr fa ga la bz) Y ∧ SRel b (seekF (nI n) wo pr ne ow ke bd (d + 1) 1 fire 0 (moneyI ow ke 1 0) (0, -1, ov, false, way, kept)) Y ∧ (seekF (nI n) wo pr ne ow ke bd (d + 1) 1 fire 0 (moneyI ow ke 1 0) (0, -1, ov, false, way, kept)).2.1 ≠ -1 := by
  have H0 := H
  obtain ⟨hn, hpr, hne, hwo, hbl, hp, hp9, hq, hq9, ho, hoN, hke, hbd, hb50, hb1000, hpz⟩ := H
  obtain ⟨fr, hfr, efr⟩ := free_nat hn fire 0
  obtain ⟨m, hm, hfm⟩ := fill_nat hoN ke' (Nat.le_refl 1) (show 1 ≤ 8 by omega) 0
  have hin : LIn n b 1 0 fr m (0, -1, ov, false, way, kept) (x0M ow' ke' fire tr fa ga la bz) := by
    refine ⟨rfl, rfl, ?_, ?_, ?_, hfr, fun i hi => (by rw [Nat.zero_testBit] at hi; cases hi), ?_, by omega, ⟨⟨0, by omega, rfl⟩, rfl, rfl, rfl, Or.inl rfl⟩, fun i hi => by omega, fun _ => ⟨rfl, rfl⟩⟩
    · show below n (upd fa 1 fire 1)
      rw [pk_us]
      exact hf
    · show upd tr 1 0 1 = _
      rw [pk_us]
      rfl
    · show freeI (nI n) (upd fa 1 fire 1) (upd ga 1 0 1) = _
      rw [pk_us, pk_us]
      exact efr
    · show upd la 1 (fillM ow' ke' 1 0) 1 = _
      rw [pk_us]
      exact hfm
  have h := lev_all H0 d 1 hd (Nat.le_refl 1) fr m _ _ hin
  rw [show kFa (x0M ow' ke' fire tr fa ga la bz) 1 = fire by show upd fa 1 fire 1 = fire; exact pk_us, show kGa (x0M ow' ke' fire tr fa ga la bz) 1 = 0 by show upd ga 1 0 1 = 0; exact pk_us, ← hfm, show fillM ow' ke' 1 (nI 0) = moneyI ow ke 1 0 from (fill_eq ho hke (Nat.le_refl 1) 0).symm] at h
  obtain ⟨Y, g, r, hne1, h2⟩ := h
  refine ⟨Y, g.seekTo (h2.elim (fun z => Or.inr z) (fun z => Or.inl z.2.1)), r, hne1⟩
/-! divisors: both sides find the same -/
def fibN : Nat → Nat
  | 0 => 0
  | 1 => 1
  | n + 2 => fibN n + fibN (n + 1)
theorem cmp_eq0 (x y : Int64) : lg_cmp x y = 0 ↔ x = y := by
  unfold lg_cmp
  by_cases h1 : x > y
  · rw [if_pos h1]
    refine ⟨fun q => absurd q (by decide), fun q => ?_⟩
    rw [q] at h1
    exact absurd h1 Int64.lt_irrefl
  · rw [if_neg h1]
    by_cases h2 : x = y
    · rw [if_pos h2]; exact ⟨fun _ => h2, fun _ => rfl⟩
    · rw [if_neg h2]; exact ⟨fun q => absurd q (by decide), fun q => absurd q h2⟩
theorem lN_nz {a : Nat} (h : a < 2 ^ 63) : lN a = 0 ↔ a = 0 := by
  rw [show (0 : Int64) = lN 0 from rfl, pk_lEQ h (by omega)]
theorem gcd_rec {x y : Nat} (h : y ≠ 0) : Nat.gcd x y = Nat.gcd y (x % y) := by
  rw [Nat.gcd_comm x y, Nat.gcd_rec y x, Nat.gcd_comm]
theorem gcdA_nat : ∀ (f x y : Nat), y < fibN (f + 1) → x < 2 ^ 63 → y < 2 ^ 63 → gcdA f (lN x) (lN y) = lN (Nat.gcd x y)
  | 0, x, y, h, _, _ => by
    have e : fibN (0 + 1) = 1 := rfl
    have : y = 0 := by omega
    subst this
    rw [gcdA, Nat.gcd_zero_right]
  | 1, x, y, h, hx, hy => by
    have e : fibN (1 + 1) = 1 := rfl
    have : y = 0 := by omega
    subst this
    rw [gcdA, if_pos ((cmp_eq0 (lN 0) 0).mpr rfl), Nat.gcd_zero_right]
  | f + 2, x, y, h, hx, hy => by
    rw [gcdA]
    by_cases h0 : y = 0
    · subst h0
      rw [if_pos ((cmp_eq0 (lN 0) 0).mpr rfl), Nat.gcd_zero_right]
    · rw [if_neg (fun q => h0 ((lN_nz hy).mp ((cmp_eq0 _ _).mp q))), pk_lRem hx (by omega) hy, gcd_rec h0]
      have hm := Nat.mod_lt x (show y > 0 by omega)
      have e3 : fibN (f + 2 + 1) = fibN (f + 1) + fibN (f + 2) := rfl
      rcases Nat.lt_or_ge (x % y) (fibN (f + 2)) with q | q
      · exact gcdA_nat (f + 1) y (x % y) q hy (by omega)
      · rw [gcdA]
        have h1 : x % y ≠ 0 := fun z => by
          rw [z] at q
          have : 0 < fibN (f + 2) := by
            have : ∀ k, 0 < fibN (k + 1) ∧ 0 < fibN (k + 2) := fun k => by
              induction k with
              | zero => exact ⟨by decide, by decide⟩
              | succ k ih => exact ⟨ih.2, by show 0 < fibN (k + 1) + fibN (k + 2); omega⟩
            exact (this (f + 1)).1
          omega
        rw [if_neg (fun w => h1 ((lN_nz (by omega)).mp ((cmp_eq0 _ _).mp w))), pk_lRem hy (by omega) (by omega), gcd_rec h1]
        have h2 : y % (x % y) < fibN (f + 1) := by
          have := Nat.mod_lt y (show x % y > 0 by omega)
          have h3 : y % (x % y) ≤ y - x % y := by
            have h4 := Nat.div_add_mod y (x % y)
            have h5 : 1 ≤ y / (x % y) := (Nat.one_le_div_iff (by omega)).mpr (by omega)
            have h6 := Nat.mul_le_mul_left (x % y) h5
            omega
          omega
        have h7 : y % (x % y) < x % y := Nat.mod_lt y (by omega)
        exact gcdA_nat f (x % y) (y % (x % y)) h2 (by omega) (by omega)
theorem gcdQ_of : ∀ (f x y : Nat), y < fibN f → x < 2 ^ 63 → y < 2 ^ 63 → gcdQ f (lN x) (lN y) = some (lN (Nat.gcd x y))
  | 0, x, y, h, _, _ => by
    have e : fibN 0 = 0 := rfl
    omega
  | 1, x, y, h, hx, hy => by
    have e : fibN 1 = 1 := rfl
    have : y = 0 := by omega
    subst this
    rw [gcdQ, if_pos (show lN 0 = 0 from rfl), Nat.gcd_zero_right]
  | f + 2, x, y, h, hx, hy => by
    rw [gcdQ]
    by_cases h0 : y = 0
    · subst h0
      rw [if_pos (show lN 0 = 0 from rfl), Nat.gcd_zero_right]
    · rw [if_neg (fun q => h0 ((lN_nz hy).mp q)), pk_lRem hx (by omega) hy, gcd_rec h0]
      have hm := Nat.mod_lt x (show y > 0 by omega)
      have e3 : fibN (f + 2) = fibN f + fibN (f + 1) := rfl
      rcases Nat.lt_or_ge (x % y) (fibN (f + 1)) with q | q
      · exact gcdQ_of (f + 1) y (x % y) q hy (by omega)
      · rw [gcdQ]
        have hp : 0 < fibN (f + 1) := by
          have : ∀ k, 0 < fibN (k + 1) ∧ 0 < fibN (k + 2) := fun k => by
            induction k with
            | zero => exact ⟨by decide, by decide⟩
            | succ k ih => exact ⟨ih.2, by show 0 < fibN (k + 1) + fibN (k + 2); omega⟩
          exact (this f).1
        have h1 : x % y ≠ 0 := by omega
        rw [if_neg (fun w => h1 ((lN_nz (by omega)).mp w)), pk_lRem hy (by omega) (by omega), gcd_rec h1]
        have h2 : y % (x % y) < fibN f := by
          have := Nat.mod_lt y (show x % y > 0 by omega)
          have h3 : y % (x % y) ≤ y - x % y := by
            have h4 := Nat.div_add_mod y (x % y)
            have h5 : 1 ≤ y / (x % y) := (Nat.one_le_div_iff (by omega)).mpr (by omega)
            have h6 := Nat.mul_le_mul_left (x % y) h5
            omega
          omega
        have h7 : y % (x % y) < x % y := Nat.mod_lt y (by omega)
        exact gcdQ_of f (x % y) (y % (x % y)) h2 (by omega) (by omega)
theorem gcdL_of : ∀ (f x y : Nat), y < fibN f → x < 2 ^ 31 → y < 2 ^ 31 → gcdL f (nI x) (nI y) = some (nI (Nat.gcd x y))
  | 0, x, y, h, _, _ => by
    have e : fibN 0 = 0 := rfl
    omega
  | 1, x, y, h, hx, hy => by
    have e : fibN 1 = 1 := rfl
    have : y = 0 := by omega
    subst this
    rw [gcdL, if_pos (show nI 0 = 0 from rfl), Nat.gcd_zero_right]
  | f + 2, x, y, h, hx, hy => by
    rw [gcdL]
    by_cases h0 : y = 0
    · subst h0
      rw [if_pos (show nI 0 = 0 from rfl), Nat.gcd_zero_right]
    · rw [if_neg (nI_ne0 (by omega) hy), pk_rem hx (by omega) hy, gcd_rec h0]
      have hm := Nat.mod_lt x (show y > 0 by omega)
      have e3 : fibN (f + 2) = fibN f + fibN (f + 1) := rfl
      rcases Nat.lt_or_ge (x % y) (fibN (f + 1)) with q | q
      · exact gcdL_of (f + 1) y (x % y) q hy (by omega)
      · rw [gcdL]
        have hp : 0 < fibN (f + 1) := by
          have : ∀ k, 0 < fibN (k + 1) ∧ 0 < fibN (k + 2) := fun k => by
            induction k with
            | zero => exact ⟨by decide, by decide⟩
            | succ k ih => exact ⟨ih.2, by show 0 < fibN (k + 1) + fibN (k + 2); omega⟩
          exact (this f).1
        have h1 : x % y ≠ 0 := by omega
        rw [if_neg (nI_ne0 (by omega) (by omega)), pk_rem hy (by omega) (by omega), gcd_rec h1]
        have h2 : y % (x % y) < fibN f := by
          have := Nat.mod_lt y (show x % y > 0 by omega)
          have h3 : y % (x % y) ≤ y - x % y := by
            have h4 := Nat.div_add_mod y (x % y)
            have h5 : 1 ≤ y / (x % y) := (Nat.one_le_div_iff (by omega)).mpr (by omega)
            have h6 := Nat.mul_le_mul_left (x % y) h5
            omega
          omega
        have h7 : y % (x % y) < x % y := Nat.mod_lt y (by omega)
        exact gcdL_of f (x % y) (y % (x % y)) h2 (by omega) (by omega)
def fibS : Nat → Nat × Nat
  | 0 => (0, 1)
  | n + 1 => ((fibS n).2, (fibS n).1 + (fibS n).2)
theorem fibS_eq : ∀ n, fibS n = (fibN n, fibN (n + 1))
  | 0 => rfl
  | n + 1 => by
    show ((fibS n).2, (fibS n).1 + (fibS n).2) = _
    rw [fibS_eq n]
    rfl
theorem fib_60 : 2 ^ 40 < fibN 60 := by
  have h : (fibS 60).1 = fibN 60 := by rw [fibS_eq]
  rw [← h]
  decide +kernel
theorem fib_101 : 2 ^ 63 ≤ fibN 101 := by
  have h : (fibS 101).1 = fibN 101 := by rw [fibS_eq]
  rw [← h]
  decide +kernel
theorem fib_30 : 2 ^ 19 < fibN 30 := by
  have h : (fibS 30).1 = fibN 30 := by rw [fibS_eq]
  rw [← h]
  decide +kernel
/-- the class's fraction -/
theorem frac_nat {u l : Nat} (hu : u < 2 ^ 63) (hl : l < 2 ^ 63) (h0 : 0 < l) (what : Int32) : fracI (lN u) (lN l) what = lN ((if what = 0 then u else l) / Nat.gcd u l) := by
  have hf : 2 ^ 63 ≤ fibN (100 + 1) := fib_101
  have e : gcdA 100 (lN u) (lN l) = lN (Nat.gcd u l) := gcdA_nat 100 u l (by omega) hu hl
  have hg : 0 < Nat.gcd u l := Nat.gcd_pos_of_pos_right u h0
  have hgl : Nat.gcd u l ≤ l := Nat.le_of_dvd h0 (Nat.gcd_dvd_right u l)
  unfold fracI
  rw [e, if_neg (fun q => by have := (lN_nz (by omega)).mp ((cmp_eq0 _ _).mp q); omega)]
  by_cases w : what = 0
  · rw [if_pos w, if_pos w, pk_lDiv hu hg (by omega)]
  · rw [if_neg w, if_neg w, pk_lDiv hl hg (by omega)]
theorem part_nat {u l : Nat} (hu : u < 2 ^ 31) (hl : l < 2 ^ 31) (h0 : 0 < l) (what : Int32) : partR (nI u) (nI l) (nI (Nat.gcd u l)) what = nI ((if what = 0 then u else l) / Nat.gcd u l) := by
  have hg : 0 < Nat.gcd u l := Nat.gcd_pos_of_pos_right u h0
  have hgl : Nat.gcd u l ≤ l := Nat.le_of_dvd h0 (Nat.gcd_dvd_right u l)
  unfold partR
  by_cases w : what = 0
  · rw [if_pos w, if_pos w, pk_div hu hg (by omega)]
  · rw [if_neg w, if_neg w, pk_div hl hg (by omega)]
theorem frac_part {u l : Nat} (hu : u < 2 ^ 31) (hl : l < 2 ^ 19) (h0 : 0 < l) (what : Int32) : (fracI (nI u).toInt64 (nI l).toInt64 what).toInt32 = partR (nI u) (nI l) (nI (Nat.gcd u l)) what ∧ gcdL 30 (nI u) (nI l) = some (nI (Nat.gcd u l)) ∧ nI (Nat.gcd u l) ≠ 0 := by
  have hf := fib_30
  have hg : 0 < Nat.gcd u l := Nat.gcd_pos_of_pos_right u h0
  have hgl : Nat.gcd u l ≤ l := Nat.le_of_dvd h0 (Nat.gcd_dvd_right u l)
  refine ⟨?_, gcdL_of 30 u l (by omega) hu (by omega), nI_ne0 hg (by omega)⟩
  rw [nI_l hu, nI_l (by omega), frac_nat (by omega) (by omega) h0, part_nat hu (by omega) h0, lN_i]
/-! chances: the class's branching beside the sum over all ways -/
def sumO (g : Nat → Int64) : Nat → Int64
  | 0 => 0
  | k + 1 => sumO g k + g k
theorem sumO_congr {g h : Nat → Int64} : ∀ {N : Nat}, (∀ o, o < N → g o = h o) → sumO g N = sumO h N
  | 0, _ => rfl
  | N + 1, e => by
    show sumO g N + g N = sumO h N + h N
    rw [sumO_congr (fun o ho => e o (by omega)), e N (by omega)]
theorem sumO_zero {g : Nat → Int64} : ∀ {N : Nat}, (∀ o, o < N → g o = 0) → sumO g N = 0
  | 0, _ => rfl
  | N + 1, e => by
    show sumO g N + g N = 0
    rw [sumO_zero (fun o ho => e o (by omega)), e N (by omega), Int64.add_zero]
theorem sumO_lin (a b : Int64) (g h : Nat → Int64) : ∀ N : Nat, sumO (fun o => a * g o + b * h o) N = a * sumO g N + b * sumO h N
  | 0 => by
    show (0 : Int64) = a * 0 + b * 0
    rw [Int64.mul_zero, Int64.mul_zero, Int64.add_zero]
  | N + 1 => by
    show sumO (fun o => a * g o + b * h o) N + (a * g N + b * h N) = a * (sumO g N + g N) + b * (sumO h N + h N)
    rw [sumO_lin a b g h N, Int64.mul_add, Int64.mul_add]
    ac_rfl
theorem sumO_one {g : Nat → Int64} {v : Nat} (h : ∀ o, o ≠ v → g o = 0) : ∀ {N : Nat}, v < N → sumO g N = g v
  | 0, hv => absurd hv (Nat.not_lt_zero _)
  | N + 1, hv => by
    show sumO g N + g N = g v
    by_cases q : v = N
    · subst q
      rw [sumO_zero (fun o ho => h o (by omega)), Int64.zero_add]
    · rw [sumO_one h (show v < N by omega), h N (fun z => q z.symm), Int64.add_zero]
abbrev Bits := Nat → Bool
/-- what the lines that are not tried weigh -/
def wgt (op sh : Int64) (T O : Bits) : Nat → Int64
  | 0 => 1
  | l + 1 => wgt op sh T O l * (if T l = true then 1 else if O l = true then op else sh)
def setB (T : Bits) (i : Nat) (c : Bool) : Bits := fun l => if l = i then c else T l
theorem wgt_congr {op sh : Int64} {T T' O : Bits} : ∀ {k : Nat}, (∀ l, l < k → T l = T' l) → wgt op sh T O k = wgt op sh T' O k
  | 0, _ => rfl
  | k + 1, h => by
    show wgt op sh T O k * _ = wgt op sh T' O k * _
    rw [wgt_congr (fun l hl => h l (by omega)), h k (by omega)]
theorem wgt_split {op sh : Int64} {T O : Bits} {i : Nat} (hT : T i = false) : ∀ {k : Nat}, i < k → wgt op sh T O k = (if O i = true then op else sh) * wgt op sh (setB T i true) O k
  | 0, h => absurd h (Nat.not_lt_zero _)
  | k + 1, h => by
    show wgt op sh T O k * (if T k = true then 1 else if O k = true then op else sh) = (if O i = true then op else sh) * (wgt op sh (setB T i true) O k * (if setB T i true k = true then 1 else if O k = true then op else sh))
    by_cases q : i = k
    · subst q
      rw [hT, show setB T i true i = true from if_pos rfl, if_neg Bool.false_ne_true, if_pos rfl, Int64.mul_one, wgt_congr (T := T) (T' := setB T i true) (fun l hl => (if_neg (show ¬ l = i by omega)).symm), Int64.mul_comm]
    · rw [wgt_split hT (show i < k by omega), show setB T i true k = T k from if_neg (fun z => q z.symm), Int64.mul_assoc]
def MT (mm : Nat) (T V O : Bits) : Prop := ∀ l, l < mm → T l = true → O l = V l
theorem MT_split {mm : Nat} {T V O : Bits} {i : Nat} {c : Bool} (hi : i < mm) (hT : T i = false) : MT mm (setB T i true) (setB V i c) O ↔ (MT mm T V O ∧ O i = c) := by
  constructor
  · intro h
    refine ⟨fun l hl q => ?_, ?_⟩
    · have hne : l ≠ i := fun z => by rw [z, hT] at q; cases q
      have := h l hl (by rw [setB, if_neg hne]; exact q)
      rw [setB, if_neg hne] at this
      exact this
    · have := h i hi (by rw [setB, if_pos rfl])
      rw [setB, if_pos rfl] at this
      exact this
  · rintro ⟨h1, h2⟩ l hl q
    by_cases hne : l = i
    · subst hne
      rw [setB, if_pos rfl]
      exact h2
    · rw [setB, if_neg hne] at q ⊢
      exact h1 l hl q
noncomputable def trm (op sh : Int64) (mm : Nat) (T V : Bits) (P : Nat → Bool) (o : Nat) : Int64 := @ite Int64 (MT mm T V o.testBit ∧ P o = true) (Classical.propDecidable _) (wgt op sh T o.testBit mm) 0
theorem trm_yes {op sh : Int64} {mm : Nat} {T V : Bits} {P : Nat → Bool} {o : Nat} (h : MT mm T V o.testBit ∧ P o = true) : trm op sh mm T V P o = wgt op sh T o.testBit mm := if_pos h
theorem trm_no {op sh : Int64} {mm : Nat} {T V : Bits} {P : Nat → Bool} {o : Nat} (h : ¬ (MT mm T V o.testBit ∧ P o = true)) : trm op sh mm T V P o = 0 := if_neg h
theorem trm_split (op sh : Int64) {mm : Nat} {T : Bits} (V : Bits) (P : Nat → Bool) {i : Nat} (hi : i < mm) (hT : T i = false) (o : Nat) : trm op sh mm T V P o = op * trm op sh mm (setB T i true) (setB V i true) P o + sh * trm op sh mm (setB T i true) (setB V i false) P o := by
  by_cases hm : MT mm T V o.testBit ∧ P o = true
  · rw [trm_yes hm, wgt_split hT hi]
    cases hO : o.testBit i
    · rw [if_neg (by simp), trm_no (fun q => by have := ((MT_split hi hT).mp q.1).2; rw [hO] at this; cases this), trm_yes ⟨(MT_split hi hT).mpr ⟨hm.1, hO⟩, hm.2⟩, Int64.mul_zero, Int64.zero_add]
    · rw [if_pos rfl, trm_no (T := setB T i true) (V := setB V i false) (fun q => by have := ((MT_split hi hT).mp q.1).2; rw [hO] at this; cases this), trm_yes ⟨(MT_split hi hT).mpr ⟨hm.1, hO⟩, hm.2⟩, Int64.mul_zero, Int64.add_zero]
  · rw [trm_no hm, trm_no (fun q => hm ⟨((MT_split hi hT).mp q.1).1, q.2⟩), trm_no (fun q => hm ⟨((MT_split hi hT).mp q.1).1, q.2⟩), Int64.mul_zero, Int64.mul_zero, Int64.add_zero]
theorem sum_split (op sh : Int64) {mm : Nat} {T : Bits} (V : Bits) (P : Nat → Bool) {i : Nat} (hi : i < mm) (hT : T i = false) (N : Nat) : sumO (trm op sh mm T V P) N = op * sumO (trm op sh mm (setB T i true) (setB V i true) P) N + sh * sumO (trm op sh mm (setB T i true) (setB V i false) P) N := by
  rw [← sumO_lin]
  exact sumO_congr (fun o _ => trm_split op sh V P hi hT o)
def cntU (T : Bits) : Nat → Nat
  | 0 => 0
  | k + 1 => cntU T k + if T k = true then 0 else 1
theorem cntU_0 {T : Bits} : ∀ {k : Nat}, cntU T k = 0 → ∀ l, l < k → T l = true
  | 0, _, l, hl => absurd hl (Nat.not_lt_zero _)
  | k + 1, h, l, hl => by
    have h : cntU T k + (if T k = true then 0 else 1) = 0 := h
    by_cases q : T k = true
    · rw [if_pos q] at h
      by_cases z : l = k
      · rw [z]; exact q
      · exact cntU_0 (show cntU T k = 0 by omega) l (by omega)
    · rw [if_neg q] at h
      omega
theorem cntU_ex {T : Bits} : ∀ {k f : Nat}, cntU T k = f + 1 → ∃ i, i < k ∧ T i = false
  | 0, f, h => by
    have h : 0 = f + 1 := h
    omega
  | k + 1, f, h => by
    have h : cntU T k + (if T k = true then 0 else 1) = f + 1 := h
    by_cases q : T k = true
    · rw [if_pos q] at h
      obtain ⟨i, h1, h2⟩ := cntU_ex (T := T) (k := k) (f := f) (by omega)
      exact ⟨i, by omega, h2⟩
    · exact ⟨k, by omega, by cases z : T k with | false => rfl | true => exact absurd z q⟩
theorem cntU_congr {T T' : Bits} : ∀ {k : Nat}, (∀ l, l < k → T l = T' l) → cntU T k = cntU T' k
  | 0, _ => rfl
  | k + 1, h => by
    show cntU T k + _ = cntU T' k + _
    rw [cntU_congr (fun l hl => h l (by omega)), h k (by omega)]
theorem cntU_split {T : Bits} {i : Nat} (hT : T i = false) : ∀ {k : Nat}, i < k → cntU (setB T i true) k + 1 = cntU T k
  | 0, h => absurd h (Nat.not_lt_zero _)
  | k + 1, h => by
    show cntU (setB T i true) k + (if setB T i true k = true then 0 else 1) + 1 = cntU T k + (if T k = true then 0 else 1)
    by_cases q : i = k
    · subst q
      rw [hT, show setB T i true i = true from if_pos rfl, if_pos rfl, if_neg Bool.false_ne_true, cntU_congr (T := setB T i true) (T' := T) (fun l hl => if_neg (show ¬ l = i by omega))]
    · have := cntU_split hT (show i < k by omega)
      rw [show setB T i true k = T k from if_neg (fun z => q z.symm)]
      omega
theorem bits_ex (V : Bits) : ∀ mm : Nat, ∃ v, v < 2 ^ mm ∧ ∀ l, l < mm → v.testBit l = V l
  | 0 => ⟨0, by decide, fun l hl => absurd hl (Nat.not_lt_zero _)⟩
  | mm + 1 => by
    obtain ⟨v, h1, h2⟩ := bits_ex V mm
    have hp : 2 ^ (mm + 1) = 2 * 2 ^ mm := by rw [Nat.pow_succ, Nat.mul_comm]
    cases hV : V mm
    · refine ⟨v, by omega, fun l hl => ?_⟩
      by_cases q : l = mm
      · rw [q, hV]
        exact Nat.testBit_lt_two_pow h1
      · exact h2 l (by omega)
    · refine ⟨2 ^ mm + v, by omega, fun l hl => ?_⟩
      by_cases q : l = mm
      · rw [q, hV, Nat.testBit_two_pow_add_eq, Nat.testBit_lt_two_pow h1]
        rfl
      · rw [Nat.testBit_two_pow_add_gt (by omega)]
        exact h2 l (by omega)
theorem wgt_done {op sh : Int64} {T O : Bits} : ∀ {k : Nat}, (∀ l, l < k → T l = true) → wgt op sh T O k = 1
  | 0, _ => rfl
  | k + 1, h => by
    show wgt op sh T O k * (if T k = true then 1 else _) = 1
    rw [wgt_done (fun l hl => h l (by omega)), if_pos (h k (by omega)), Int64.mul_one]
theorem lt_bits {x y mm : Nat} (hx : x < 2 ^ mm) (hy : y < 2 ^ mm) (h : ∀ l, l < mm → x.testBit l = y.testBit l) : x = y := Nat.eq_of_testBit_eq fun i => by
  rcases Nat.lt_or_ge i mm with q | q
  · exact h i q
  · rw [Nat.testBit_lt_two_pow (Nat.lt_of_lt_of_le hx (Nat.pow_le_pow_right (by decide) q)), Nat.testBit_lt_two_pow (Nat.lt_of_lt_of_le hy (Nat.pow_le_pow_right (by decide) q))]
theorem binom (op sh : Int64) {mm : Nat} : ∀ (f : Nat) (T V : Bits), cntU T mm = f → sumO (trm op sh mm T V (fun _ => true)) (2 ^ mm) = powL (op + sh) f
  | 0, T, V, h => by
    obtain ⟨v, h1, h2⟩ := bits_ex V mm
    have hT := cntU_0 h
    have e : sumO (trm op sh mm T V (fun _ => true)) (2 ^ mm) = sumO (fun o => if o = v then 1 else 0) (2 ^ mm) := sumO_congr fun o ho => by
      by_cases q : o = v
      · rw [if_pos q, q, trm_yes ⟨fun l hl _ => h2 l hl, rfl⟩, wgt_done hT]
      · rw [if_neg q, trm_no]
        rintro ⟨m, -⟩
        exact q (lt_bits ho h1 (fun l hl => (m l hl (hT l hl)).trans (h2 l hl).symm))
    rw [e, sumO_one (v := v) (fun o ho => if_neg ho) h1, if_pos rfl]
    rfl
  | f + 1, T, V, h => by
    obtain ⟨i, hi, hT⟩ := cntU_ex h
    have hs := cntU_split hT hi
    rw [sum_split op sh V _ hi hT, binom op sh f _ _ (by omega), binom op sh f _ _ (by omega), ← Int64.add_mul, Int64.mul_comm]
    rfl
/-- sets of nodes, as bits -/
def subI (x y : Int32) : Prop := ∀ i, i < 32 → tb x i = true → tb y i = true
/-- a set that the open lines don't lead out of -/
def shutI (en : Row) (mm : Nat) (cl : Int32) (O : Bits) (z : Int32) : Prop := ∀ l, l < mm → O l = true → en l &&& cl = 0 → ¬ z &&& en l = 0 → subI (en l) z
theorem and_nz {x y : Int32} : ¬ x &&& y = 0 ↔ ∃ i, i < 32 ∧ tb x i = true ∧ tb y i = true := by
  rw [zero_iff]
  constructor
  · intro h
    refine Classical.byContradiction fun q => h fun i hi => ?_
    rw [tb_and]
    cases h1 : tb x i
    · rfl
    · cases h2 : tb y i
      · rfl
      · exact absurd ⟨i, hi, h1, h2⟩ q
  · rintro ⟨i, hi, h1, h2⟩ h
    have := h i hi
    rw [tb_and, h1, h2] at this
    cases this
abbrev onw (en : Row) (ba re tr : Int32) (j : Nat) : Prop := ¬ byL en re j = 0 ∧ ¬ byL en re j = en j ∧ byL en re j &&& ba = 0 ∧ bt tr (nI j) = 0
theorem lo_none {en : Row} {ba re tr : Int32} : ∀ {f j : Nat}, j + f < 2 ^ 31 → loF en ba re tr f j = -1 → ∀ l, j ≤ l → l < j + f → ¬ onw en ba re tr l
  | 0, j, _, _, l, h1, h2 => by omega
  | f + 1, j, hj, h, l, h1, h2 => by
    rw [loF] at h
    by_cases q : onw en ba re tr j
    · rw [if_pos q] at h
      have := nI_pos (n := j) (by omega)
      rw [h] at this
      exact absurd (by decide) this
    · rw [if_neg q] at h
      by_cases z : l = j
      · rw [z]; exact q
      · exact lo_none (by omega) h l (by omega) (by omega)
theorem lo_some {en : Row} {ba re tr : Int32} : ∀ {f j : Nat}, ¬ loF en ba re tr f j = -1 → ∃ l, j ≤ l ∧ l < j + f ∧ loF en ba re tr f j = nI l ∧ onw en ba re tr l
  | 0, j, h => absurd rfl h
  | f + 1, j, h => by
    rw [loF] at h ⊢
    by_cases q : onw en ba re tr j
    · rw [if_pos q]
      exact ⟨j, Nat.le_refl _, by omega, rfl, q⟩
    · rw [if_neg q] at h ⊢
      obtain ⟨l, h1, h2, h3, h4⟩ := lo_some h
      exact ⟨l, by omega, by omega, h3, h4⟩
theorem goal_bit {re : Int32} {k : Nat} (hk : k < 32) : ¬ re &&& ((1 : Int32) <<< (nI k &&& 31)) = 0 ↔ tb re k = true := by
  rw [and_nz]
  constructor
  · rintro ⟨i, hi, h1, h2⟩
    rw [tb_shl k hk i hi] at h2
    have := of_decide_eq_true h2
    rw [← this]; exact h1
  · intro h
    exact ⟨k, hk, h, by rw [tb_shl k hk k hk]; exact decide_eq_true rfl⟩
/-- the branching is the sum -/
theorem ways_sum {en : Row} {mm : Nat} (hmm : mm ≤ 12) {cl st op sh : Int32} {RS : Nat → Int32} {kn : Nat} (hk : kn < 32)
    (h1 : ∀ o, o < 2 ^ mm → subI st (RS o)) (h2 : ∀ o, o < 2 ^ mm → shutI en mm cl o.testBit (RS o)) (h3 : ∀ o, o < 2 ^ mm → ∀ z, subI st z → shutI en mm cl o.testBit z → subI (RS o) z) (hos : (op + sh).toInt64 = op.toInt64 + sh.toInt64) :
    ∀ (f : Nat) (re tr : Int32) (V : Bits), cntU (fun l => tb tr l) mm = f → subI st re → (∀ i, i < 32 → tb re i = true → tb cl i = false) → (∀ o, o < 2 ^ mm → MT mm (fun l => tb tr l) V o.testBit → subI re (RS o)) → (∀ l, l < mm → tb tr l = true → V l = true → subI (en l) re) →
      wF en cl op sh ((1 : Int32) <<< (nI kn &&& 31)) mm f re tr = sumO (trm op.toInt64 sh.toInt64 mm (fun l => tb tr l) V (fun o => tb (RS o) kn)) (2 ^ mm) := by
  have hit : ∀ (f : Nat) (re tr : Int32) (V : Bits), cntU (fun l => tb tr l) mm = f → (∀ o, o < 2 ^ mm → MT mm (fun l => tb tr l) V o.testBit → subI re (RS o)) → tb re kn = true → sumO (trm op.toInt64 sh.toInt64 mm (fun l => tb tr l) V (fun o => tb (RS o) kn)) (2 ^ mm) = powL (op + sh).toInt64 f := by
    intro f re tr V hf h5 hg
    rw [hos, ← binom op.toInt64 sh.toInt64 f (fun l => tb tr l) V hf]
    refine sumO_congr fun o ho => ?_
    by_cases q : MT mm (fun l => tb tr l) V o.testBit
    · rw [trm_yes ⟨q, h5 o ho q kn hk hg⟩, trm_yes ⟨q, rfl⟩]
    · rw [trm_no (fun z => q z.1), trm_no (fun z => q z.1)]
  have hnone : ∀ (re tr : Int32) (V : Bits), subI st re → (∀ l, l < mm → tb tr l = true → V l = true → subI (en l) re) → (∀ l, l < mm → ¬ onw en cl re tr l) → ¬ tb re kn = true → sumO (trm op.toInt64 sh.toInt64 mm (fun l => tb tr l) V (fun o => tb (RS o) kn)) (2 ^ mm) = 0 := by
    intro re tr V h4 h7 hno hg
    refine sumO_zero fun o ho => trm_no ?_
    rintro ⟨hm, hP⟩
    refine hg (h3 o ho re h4 (fun l hl hO hc hz => ?_) kn hk hP)
    by_cases hT : tb tr l = true
    · exact h7 l hl hT ((hm l hl hT).symm.trans hO)
    · refine Classical.byContradiction fun hsub => hno l hl ⟨fun z => ?_, fun z => ?_, ?_, ?_⟩
      · refine hsub fun i hi hei => ?_
        have := zero_iff.mp z i hi
        rw [tb_and, hei, tb_not _ hi] at this
        cases w : tb re i
        · rw [w] at this; cases this
        · rfl
      · obtain ⟨i, hi, a1, a2⟩ := and_nz.mp hz
        have : tb (byL en re l) i = tb (en l) i := by rw [z]
        rw [tb_and, a2, tb_not _ hi, a1] at this
        cases this
      · refine zero_iff.mpr fun i hi => ?_
        have := zero_iff.mp hc i hi
        rw [tb_and] at this
        rw [tb_and, tb_and]
        cases a : tb (en l) i
        · rfl
        · rw [a] at this
          have : tb cl i = false := this
          rw [this, Bool.and_false]
      · exact Decidable.byContradiction fun w => hT ((bt_n0 (by omega)).mp w)
  intro f
  induction f with
  | zero =>
    intro re tr V hf h4 h5 h6 h7
    rw [wF]
    by_cases hg : tb re kn = true
    · rw [if_pos ((goal_bit hk).mpr hg), hit 0 re tr V hf h6 hg]
    · rw [if_neg (fun z => hg ((goal_bit hk).mp z)), hnone re tr V h4 h7 (fun l hl z => ?_) hg]
      have := cntU_0 hf l hl
      exact absurd z.2.2.2 ((bt_n0 (by omega)).mpr this)
  | succ f ih =>
    intro re tr V hf h4 h5 h6 h7
    rw [wF]
    by_cases hg : tb re kn = true
    · rw [if_pos ((goal_bit hk).mpr hg), hit (f + 1) re tr V hf h6 hg]
    · rw [if_neg (fun z => hg ((goal_bit hk).mp z))]
      by_cases hlo : loF en cl re tr mm 0 = -1
      · rw [if_pos hlo, hnone re tr V h4 h7 (fun l hl => lo_none (by omega) hlo l (by omega) (by omega)) hg]
      · rw [if_neg hlo]
        obtain ⟨i, -, hi, elo, o1, o2, o3, o4⟩ := lo_some hlo
        have hi : i < mm := by omega
        rw [elo, nI_clamp (by omega)]
        have hTi : (fun l => tb tr l) i = false := by
          show tb tr i = false
          cases w : tb tr i
          · rfl
          · exact absurd o4 ((bt_n0 (by omega)).mpr w)
        have htr : ∀ l, l < 32 → tb (tr ||| ((1 : Int32) <<< (nI i &&& 31))) l = setB (fun l => tb tr l) i true l := fun l hl => by
          rw [tb_or, tb_shl i (by omega) l hl]
          unfold setB
          by_cases z : l = i
          · rw [if_pos z, decide_eq_true z, Bool.or_true]
          · rw [if_neg z, decide_eq_false z, Bool.or_false]
        have hcnt : cntU (fun l => tb (tr ||| ((1 : Int32) <<< (nI i &&& 31))) l) mm = f := by
          rw [cntU_congr (T' := setB (fun l => tb tr l) i true) (fun l hl => htr l (by omega))]
          have hs : cntU (setB (fun l => tb tr l) i true) mm + 1 = cntU (fun l => tb tr l) mm := cntU_split hTi hi
          exact Nat.add_right_cancel (hs.trans hf)
        have hMT : ∀ (W O : Bits), MT mm (fun l => tb (tr ||| ((1 : Int32) <<< (nI i &&& 31))) l) W O ↔ MT mm (setB (fun l => tb tr l) i true) W O := fun W O => by
          constructor
          · intro m l hl q
            exact m l hl ((htr l (by omega)).trans q)
          · intro m l hl q
            exact m l hl ((htr l (by omega)).symm.trans q)
        have htrm : ∀ (W : Bits), sumO (trm op.toInt64 sh.toInt64 mm (fun l => tb (tr ||| ((1 : Int32) <<< (nI i &&& 31))) l) W (fun o => tb (RS o) kn)) (2 ^ mm) = sumO (trm op.toInt64 sh.toInt64 mm (setB (fun l => tb tr l) i true) W (fun o => tb (RS o) kn)) (2 ^ mm) := fun W => sumO_congr fun o ho => by
          by_cases q : MT mm (setB (fun l => tb tr l) i true) W o.testBit ∧ tb (RS o) kn = true
          · exact (trm_yes (T := fun l => tb (tr ||| ((1 : Int32) <<< (nI i &&& 31))) l) ⟨(hMT W _).mpr q.1, q.2⟩).trans ((wgt_congr (fun l hl => htr l (by omega))).trans (trm_yes q).symm)
          · exact (trm_no (T := fun l => tb (tr ||| ((1 : Int32) <<< (nI i &&& 31))) l) (fun z => q ⟨(hMT W _).mp z.1, z.2⟩)).trans (trm_no q).symm
        -- no end of the line is barred
        have hbar : ∀ j, j < 32 → tb (en i) j = true → tb cl j = false := fun j hj hej => by
          cases w : tb re j
          · have := zero_iff.mp o3 j hj
            rw [tb_and, tb_and, hej, tb_not _ hj, w] at this
            exact this
          · exact h5 j hj w
        have hcl : en i &&& cl = 0 := zero_iff.mpr fun j hj => by
          rw [tb_and]
          cases w : tb (en i) j
          · rfl
          · rw [hbar j hj w]; rfl
        have htouch : ∃ j, j < 32 ∧ tb re j = true ∧ tb (en i) j = true := by
          refine Classical.byContradiction fun q => o2 (tb_ext fun j hj => ?_)
          rw [tb_and, tb_not _ hj]
          cases w1 : tb (en i) j
          · rfl
          · cases w2 : tb re j
            · rfl
            · exact absurd ⟨j, hj, w2, w1⟩ q
        have ih1 := ih (re ||| en i) (tr ||| ((1 : Int32) <<< (nI i &&& 31))) (setB V i true) hcnt
          (fun j hj q => by rw [tb_or, h4 j hj q, Bool.true_or])
          (fun j hj q => by
            rw [tb_or] at q
            cases w : tb re j
            · rw [w, Bool.false_or] at q
              exact hbar j hj q
            · exact h5 j hj w)
          (fun o ho m => by
            have m2 := (MT_split hi hTi).mp ((hMT _ _).mp m)
            have s1 := h6 o ho m2.1
            obtain ⟨j0, hj0, w1, w2⟩ := htouch
            have s2 := h2 o ho i hi m2.2 hcl (and_nz.mpr ⟨j0, hj0, s1 j0 hj0 w1, w2⟩)
            intro j hj q
            rw [tb_or] at q
            cases w : tb re j
            · rw [w, Bool.false_or] at q
              exact s2 j hj q
            · exact s1 j hj w)
          (fun l hl q v j hj w => by
            rw [tb_or]
            rw [htr l (by omega)] at q
            by_cases z : l = i
            · rw [z] at w
              rw [w, Bool.or_true]
            · rw [setB, if_neg z] at q v
              rw [h7 l hl q v j hj w, Bool.true_or])
        have ih2 := ih re (tr ||| ((1 : Int32) <<< (nI i &&& 31))) (setB V i false) hcnt h4 h5
          (fun o ho m => h6 o ho ((MT_split hi hTi).mp ((hMT _ _).mp m)).1)
          (fun l hl q v => by
            rw [htr l (by omega)] at q
            by_cases z : l = i
            · rw [z, setB, if_pos rfl] at v
              cases v
            · rw [setB, if_neg z] at q v
              exact h7 l hl q v)
        rw [ih1, ih2, htrm, htrm, ← sum_split op.toInt64 sh.toInt64 V _ hi hTi]
/-! chances: what burns over some of the lines, and both answers -/
theorem pass_up (en : Row) (cl op s : Int32) : ∀ l, subI s (passA en cl op s l)
  | 0 => fun i _ h => h
  | l + 1 => fun i hi h => by
    have ih := pass_up en cl op s l i hi h
    show tb (if bt op (nI l) = 1 ∧ ¬ passA en cl op s l &&& pairM en l = 0 ∧ pairM en l &&& cl = 0 then passA en cl op s l ||| pairM en l else passA en cl op s l ||| 0) i = true
    split
    · rw [tb_or, ih, Bool.true_or]
    · rw [tb_or, ih, Bool.true_or]
theorem pass_step (en : Row) (cl op s : Int32) (l : Nat) : subI (passA en cl op s l) (passA en cl op s (l + 1)) := fun i hi h => by
  show tb (if bt op (nI l) = 1 ∧ ¬ passA en cl op s l &&& pairM en l = 0 ∧ pairM en l &&& cl = 0 then passA en cl op s l ||| pairM en l else passA en cl op s l ||| 0) i = true
  split
  · rw [tb_or, h, Bool.true_or]
  · rw [tb_or, h, Bool.true_or]
theorem pass_mono (en : Row) (cl op s : Int32) (l : Nat) : ∀ j, subI (passA en cl op s l) (passA en cl op s (l + j))
  | 0 => fun i _ h => h
  | j + 1 => fun i hi h => pass_step en cl op s (l + j) i hi (pass_mono en cl op s l j i hi h)
/-- within any set that the open lines don't lead out of -/
theorem pass_in {en : Row} {cl op s z : Int32} {mm : Nat} (hmm : mm ≤ 12) (hz : shutI (pairM en) mm cl (fun l => tb op l) z) (hs : subI s z) : ∀ l, l ≤ mm → subI (passA en cl op s l) z
  | 0, _ => hs
  | l + 1, hl => fun i hi h => by
    have ih := pass_in hmm hz hs l (by omega)
    have h : tb (if bt op (nI l) = 1 ∧ ¬ passA en cl op s l &&& pairM en l = 0 ∧ pairM en l &&& cl = 0 then passA en cl op s l ||| pairM en l else passA en cl op s l ||| 0) i = true := h
    by_cases q : bt op (nI l) = 1 ∧ ¬ passA en cl op s l &&& pairM en l = 0 ∧ pairM en l &&& cl = 0
    · rw [if_pos q, tb_or] at h
      cases w : tb (passA en cl op s l) i
      · rw [w, Bool.false_or] at h
        obtain ⟨j, hj, w1, w2⟩ := and_nz.mp q.2.1
        exact hz l (by omega) ((bt_1 (by omega)).mp q.1) q.2.2 (and_nz.mpr ⟨j, hj, ih j hj w1, w2⟩) i hi h
      · exact ih i hi w
    · rw [if_neg q, Int32.or_zero] at h
      exact ih i hi h
/-- a set that one more round leaves alone is shut -/
theorem pass_fix {en : Row} {cl op s : Int32} {mm : Nat} (hmm : mm ≤ 12) (h : passA en cl op s mm = s) : shutI (pairM en) mm cl (fun l => tb op l) s := fun l hl hO hc hz i hi he => by
  have e : ∀ j, j ≤ mm → passA en cl op s j = s := fun j hj => tb_ext fun i hi => by
    cases w : tb s i
    · cases w2 : tb (passA en cl op s j) i
      · rfl
      · have := pass_mono en cl op s j (mm - j) i hi w2
        rw [show j + (mm - j) = mm by omega, h, w] at this
        cases this
    · exact pass_up en cl op s j i hi w
  have h1 := e (l + 1) (by omega)
  have h0 := e l (by omega)
  have h1 : (if bt op (nI l) = 1 ∧ ¬ passA en cl op s l &&& pairM en l = 0 ∧ pairM en l &&& cl = 0 then passA en cl op s l ||| pairM en l else passA en cl op s l ||| 0) = s := h1
  rw [h0, if_pos ⟨(bt_1 (by omega)).mpr hO, hz, hc⟩] at h1
  have : tb (s ||| pairM en l) i = tb s i := by rw [h1]
  rw [tb_or, he, Bool.or_true] at this
  exact this.symm
theorem reach_ok {en : Row} {cl op : Int32} {mm : Nat} (hmm : mm ≤ 12) (st : Int32) : ∀ (d f : Nat) (s : Int32), 32 - cntB s 32 ≤ d → d < f → subI st s → (∀ z, subI st z → shutI (pairM en) mm cl (fun l => tb op l) z → subI s z) →
    ∃ r, reachL en mm cl op f s = some r ∧ subI st r ∧ shutI (pairM en) mm cl (fun l => tb op l) r ∧ ∀ z, subI st z → shutI (pairM en) mm cl (fun l => tb op l) z → subI r z
  | d, 0, s, _, h, _, _ => absurd h (Nat.not_lt_zero _)
  | d, f + 1, s, hd, hf, hs, hz => by
    rw [reachL]
    by_cases q : passA en cl op s mm = s
    · rw [if_pos q]
      exact ⟨s, rfl, hs, pass_fix hmm q, hz⟩
    · rw [if_neg q]
      have hup := pass_up en cl op s mm
      have hex : ∃ i, i < 32 ∧ tb s i = false ∧ tb (passA en cl op s mm) i = true := by
        refine Classical.byContradiction fun w => q (tb_ext fun i hi => ?_)
        cases w1 : tb s i
        · cases w2 : tb (passA en cl op s mm) i
          · rfl
          · exact absurd ⟨i, hi, w1, w2⟩ w
        · exact hup i hi w1
      obtain ⟨i, hi, w1, w2⟩ := hex
      have hor : s ||| passA en cl op s mm = passA en cl op s mm := tb_ext fun j hj => by
        rw [tb_or]
        cases w : tb s j
        · rfl
        · rw [hup j hj w]; rfl
      have hlt := cntB_lt w1 w2 32 hi
      rw [hor] at hlt
      have hle := cntB_le (passA en cl op s mm) 32
      cases d with
      | zero => omega
      | succ d => exact reach_ok hmm st d f (passA en cl op s mm) (by omega) (by omega) (fun j hj w => hup j hj (hs j hj w)) (fun z h1 h2 => pass_in hmm h2 (hz z h1 h2) mm (Nat.le_refl _))
def RSv (en : Row) (mm : Nat) (cl st : Int32) (o : Nat) : Int32 := (reachL en mm cl (nI o) 40 st).getD 0
theorem RSv_ok {en : Row} {mm : Nat} (hmm : mm ≤ 12) (cl st : Int32) (o : Nat) : reachL en mm cl (nI o) 40 st = some (RSv en mm cl st o) ∧ subI st (RSv en mm cl st o) ∧ shutI (pairM en) mm cl (fun l => tb (nI o) l) (RSv en mm cl st o) ∧ ∀ z, subI st z → shutI (pairM en) mm cl (fun l => tb (nI o) l) z → subI (RSv en mm cl st o) z := by
  obtain ⟨r, h1, h2, h3, h4⟩ := reach_ok (en := en) (cl := cl) (op := nI o) hmm st 32 40 st (by omega) (by omega) (fun i _ h => h) (fun z h _ => h)
  have e : RSv en mm cl st o = r := by rw [RSv, h1]; rfl
  rw [e]
  exact ⟨h1, h2, h3, h4⟩
/-- beyond 12 lines nothing is asked of the reach but that it ends -/
theorem reach_ends {en : Row} {cl op : Int32} {mm : Nat} : ∀ (d f : Nat) (s : Int32), 32 - cntB s 32 ≤ d → d < f → ∃ r, reachL en mm cl op f s = some r
  | d, 0, s, _, h => absurd h (Nat.not_lt_zero _)
  | d, f + 1, s, hd, hf => by
    rw [reachL]
    by_cases q : passA en cl op s mm = s
    · rw [if_pos q]
      exact ⟨s, rfl⟩
    · rw [if_neg q]
      have hup := pass_up en cl op s mm
      have hex : ∃ i, i < 32 ∧ tb s i = false ∧ tb (passA en cl op s mm) i = true := by
        refine Classical.byContradiction fun w => q (tb_ext fun i hi => ?_)
        cases w1 : tb s i
        · cases w2 : tb (passA en cl op s mm) i
          · rfl
          · exact absurd ⟨i, hi, w1, w2⟩ w
        · exact hup i hi w1
      obtain ⟨i, hi, w1, w2⟩ := hex
      have hor : s ||| passA en cl op s mm = passA en cl op s mm := tb_ext fun j hj => by
        rw [tb_or]
        cases w : tb s j
        · rfl
        · rw [hup j hj w]; rfl
      have hlt := cntB_lt w1 w2 32 hi
      rw [hor] at hlt
      have hle := cntB_le (passA en cl op s mm) 32
      cases d with
      | zero => omega
      | succ d => exact reach_ends d f (passA en cl op s mm) (by omega) (by omega)
theorem RSv_any (en : Row) (mm : Nat) (cl st : Int32) (o : Nat) : reachL en mm cl (nI o) 40 st = some (RSv en mm cl st o) := by
  obtain ⟨r, h1⟩ := reach_ends (en := en) (mm := mm) (cl := cl) (op := nI o) 32 40 st (by omega) (by omega)
  rw [RSv, h1]
  rfl
theorem chan_sum (RS : Nat → Int32) {kn : Nat} (hk : kn < 32) (a b : Int32) {mm : Nat} (hmm : mm ≤ 12) : ∀ N, N ≤ 2 ^ mm → chanA RS (nI kn) a b mm N = sumO (fun o => if tb (RS o) kn = true then powL a.toInt64 (bitsN (nI o) mm) * powL (b - a).toInt64 (mm - bitsN (nI o) mm) else 0) N
  | 0, _ => rfl
  | N + 1, h => by
    show chanA RS (nI kn) a b mm N + (if bt (RS N) (nI kn) = 1 then _ else 0) = _ + (if tb (RS N) kn = true then _ else 0)
    rw [chan_sum RS hk a b hmm N (by omega)]
    by_cases q : tb (RS N) kn = true
    · rw [if_pos q, if_pos ((bt_1 hk).mpr q)]
    · rw [if_neg q, if_neg (fun z => q ((bt_1 hk).mp z))]
theorem powL_S (b : Int64) (k : Nat) : powL b (k + 1) = powL b k * b := rfl
theorem wgt_all (op sh : Int64) {o : Nat} (ho : o < 2 ^ 31) {T : Bits} : ∀ {k : Nat}, k ≤ 12 → (∀ l, l < k → T l = false) → wgt op sh T o.testBit k = powL op (bitsN (nI o) k) * powL sh (k - bitsN (nI o) k)
  | 0, _, _ => rfl
  | k + 1, hk, h => by
    have hle := bitsN_le (nI o) k
    show wgt op sh T o.testBit k * (if T k = true then 1 else if o.testBit k = true then op else sh) = powL op (bitsN (nI o) k + if bt (nI o) (nI k) = 1 then 1 else 0) * powL sh (k + 1 - (bitsN (nI o) k + if bt (nI o) (nI k) = 1 then 1 else 0))
    rw [wgt_all op sh ho (by omega) (fun l hl => h l (by omega)), h k (by omega), if_neg Bool.false_ne_true]
    by_cases q : o.testBit k = true
    · rw [if_pos q, if_pos ((bt_1 (by omega)).mpr (by rw [tb_nI ho]; exact q)), powL_S, show k + 1 - (bitsN (nI o) k + 1) = k - bitsN (nI o) k by omega]
      ac_rfl
    · rw [if_neg q, if_neg (fun z => q (by rw [← tb_nI ho]; exact (bt_1 (by omega)).mp z)), Nat.add_zero, show k + 1 - bitsN (nI o) k = (k - bitsN (nI o) k) + 1 by omega, powL_S]
      ac_rfl
/-- in how many ways: no more than there are -/
theorem pow_nat (B : Nat) : ∀ k, powL (lN B) k = lN (B ^ k)
  | 0 => rfl
  | k + 1 => by rw [powL_S, pow_nat B k, lN_mul, Nat.pow_succ]
theorem ways_nat {en : Row} {ba : Int32} {A B : Nat} {go : Int32} {ln : Nat} (hA : A + B < 2 ^ 31) : ∀ (f : Nat) (re tr : Int32), ∃ W, W ≤ (A + B) ^ f ∧ wF en ba (nI A) (nI B) go ln f re tr = lN W
  | 0, re, tr => by
    rw [wF]
    split
    · exact ⟨1, Nat.le_refl _, rfl⟩
    · exact ⟨0, Nat.zero_le _, rfl⟩
  | f + 1, re, tr => by
    rw [wF]
    split
    · exact ⟨(A + B) ^ (f + 1), Nat.le_refl _, by rw [nI_add, nI_l hA, pow_nat]⟩
    · split
      · exact ⟨0, Nat.zero_le _, rfl⟩
      · obtain ⟨W1, h1, e1⟩ := ways_nat (en := en) (ba := ba) (go := go) (ln := ln) hA f (re ||| en (loF en ba re tr ln 0).toNatClampNeg) (tr ||| ((1 : Int32) <<< (loF en ba re tr ln 0 &&& 31)))
        obtain ⟨W2, h2, e2⟩ := ways_nat (en := en) (ba := ba) (go := go) (ln := ln) hA f re (tr ||| ((1 : Int32) <<< (loF en ba re tr ln 0 &&& 31)))
        refine ⟨A * W1 + B * W2, ?_, by rw [e1, e2, nI_l (by omega), nI_l (by omega), lN_mul, lN_mul, lN_add]⟩
        have q1 := Nat.mul_le_mul_left A h1
        have q2 := Nat.mul_le_mul_left B h2
        rw [Nat.pow_succ, Nat.mul_comm ((A + B) ^ f), Nat.add_mul]
        omega
theorem lo_congr {en en' : Row} {ba re tr : Int32} : ∀ {f j : Nat}, (∀ l, j ≤ l → l < j + f → en l = en' l) → loF en ba re tr f j = loF en' ba re tr f j
  | 0, _, _ => rfl
  | f + 1, j, h => by
    rw [loF, loF, lo_congr (fun l h1 h2 => h l (by omega) (by omega))]
    unfold byL
    rw [h j (Nat.le_refl _) (by omega)]
theorem ways_congr {en en' : Row} {ba op sh go : Int32} {ln : Nat} (hln : ln < 2 ^ 31) (h : ∀ l, l < ln → en l = en' l) : ∀ (f : Nat) (re tr : Int32), wF en ba op sh go ln f re tr = wF en' ba op sh go ln f re tr
  | 0, re, tr => by rw [wF, wF]
  | f + 1, re, tr => by
    have e : loF en ba re tr ln 0 = loF en' ba re tr ln 0 := lo_congr (fun l _ h2 => h l (by omega))
    rw [wF, wF, e]
    by_cases q : loF en' ba re tr ln 0 = -1
    · rw [if_pos q, if_pos q]
    · obtain ⟨l, -, h2, h3, -⟩ := lo_some q
      rw [if_neg q, if_neg q, ways_congr hln h f, ways_congr hln h f, h3, nI_clamp (by omega), h l (by omega)]
def getQ (x : Option Int64) : Int64 := x.getD 0
/-- both answers of chance -/
theorem chance_eq {nn mm : Nat} (hn : nn ≤ 10) (hn1 : 1 ≤ nn) {en en' ec : Row} (hen : ∀ l, l < mm → en l = pairM en' l) (k fire gu a b what : Int32) :
    (chanV nn mm k fire gu a b what → gcdQ 60 (chanA (RSv en' mm (gu &&& (fire ^^^ (-1))) fire) k a b mm (2 ^ mm)) (powL b.toInt64 mm) = some (getQ (gcdQ 60 (chanA (RSv en' mm (gu &&& (fire ^^^ (-1))) fire) k a b mm (2 ^ mm)) (powL b.toInt64 mm))) ∧ (getQ (gcdQ 60 (chanA (RSv en' mm (gu &&& (fire ^^^ (-1))) fire) k a b mm (2 ^ mm)) (powL b.toInt64 mm))) ≠ 0) ∧
    chanO nn mm en ec k fire gu a b what = chanceR nn mm (chanA (RSv en' mm (gu &&& (fire ^^^ (-1))) fire) k a b mm (2 ^ mm)) (powL b.toInt64 mm) (getQ (gcdQ 60 (chanA (RSv en' mm (gu &&& (fire ^^^ (-1))) fire) k a b mm (2 ^ mm)) (powL b.toInt64 mm))) k fire gu a b what := by
  have key : chanV nn mm k fire gu a b what → ∃ u l : Nat, u < 2 ^ 63 ∧ l < 2 ^ 40 ∧ 0 < l ∧ chanA (RSv en' mm (gu &&& (fire ^^^ (-1))) fire) k a b mm (2 ^ mm) = lN u ∧ powL b.toInt64 mm = lN l ∧ wF (cpF en ec 12) (gu &&& (fire ^^^ (-1))) a (b - a) ((1 : Int32) <<< (k &&& 31)) mm mm fire 0 = lN u ∧ powL (a + (b - a)).toInt64 mm = lN l := by
    rintro ⟨v1, v2, v3, v4, v5, v6, v7⟩
    obtain ⟨kn, hkn, rfl⟩ := i_hasE hn hn1 v1
    obtain ⟨B, hB, rfl⟩ := i_ixe (n := 6) (Int32.le_trans (by decide) v4.1) v4.2 (by omega)
    obtain ⟨A, hA, rfl⟩ := i_ixe (n := B) v5.1 v5.2 (by omega)
    have hB1 : 1 ≤ B := (nI_leI (a := 1) (by omega) (by omega)).mp v4.1
    have e1 : nI B - nI A = nI (B - A) := pk_sub hA
    have e2 : nI A + nI (B - A) = nI B := by rw [nI_add, show A + (B - A) = B by omega]
    have hpow : B ^ mm ≤ 6 ^ 12 := Nat.le_trans (Nat.pow_le_pow_left hB mm) (Nat.pow_le_pow_right (by decide) v7)
    have h612 : 6 ^ 12 < 2 ^ 40 := by decide
    have hpos : 0 < B ^ mm := Nat.pow_pos (by omega)
    obtain ⟨W, hW, eW⟩ := ways_nat (en := pairM en') (ba := gu &&& (fire ^^^ (-1))) (A := A) (B := B - A) (go := (1 : Int32) <<< (nI kn &&& 31)) (ln := mm) (by omega) mm fire 0
    rw [show A + (B - A) = B by omega] at hW
    have ew : wF (cpF en ec 12) (gu &&& (fire ^^^ (-1))) (nI A) (nI B - nI A) ((1 : Int32) <<< (nI kn &&& 31)) mm mm fire 0 = lN W := by
      rw [e1, ← eW]
      exact ways_congr (by omega) (fun l hl => by rw [cpF, if_pos (by omega)]; exact hen l hl) mm fire 0
    refine ⟨W, B ^ mm, by omega, by omega, hpos, ?_, by rw [nI_l (by omega), pow_nat], ew, by rw [e1, e2, nI_l (by omega), pow_nat]⟩
    rw [← eW]
    have hR := fun o => RSv_ok (en := en') v7 (gu &&& (fire ^^^ (-1))) fire o
    have hp31 : 2 ^ mm ≤ 2 ^ 12 := Nat.pow_le_pow_right (by decide) v7
    have hbit : ∀ o, o < 2 ^ mm → (fun l => tb (nI o) l) = o.testBit := fun o ho => funext fun l => tb_nI (by omega) l
    have hw := ways_sum (en := pairM en') (mm := mm) v7 (cl := gu &&& (fire ^^^ (-1))) (st := fire) (op := nI A) (sh := nI (B - A)) (RS := RSv en' mm (gu &&& (fire ^^^ (-1))) fire) (kn := kn) (by omega)
      (fun o _ => (hR o).2.1) (fun o ho => by rw [← hbit o ho]; exact (hR o).2.2.1) (fun o ho => by rw [← hbit o ho]; exact (hR o).2.2.2) (by rw [e2, nI_l (by omega), nI_l (by omega), nI_l (by omega), lN_add, show A + (B - A) = B by omega])
      mm fire 0 (fun _ => false) (by
        have : ∀ j, cntU (fun l => tb 0 l) j = j := fun j => by
          induction j with
          | zero => rfl
          | succ j ih =>
            show cntU (fun l => tb 0 l) j + (if tb 0 j = true then 0 else 1) = j + 1
            rw [ih, tb_0, if_neg Bool.false_ne_true]
        exact this mm) (fun i _ h => h) (fun i hi h => by rw [tb_and, tb_not _ hi, h]; simp) (fun o _ _ => (hR o).2.1) (fun l _ _ v => by cases v)
    rw [hw, chan_sum _ (by omega) _ _ v7 _ (Nat.le_refl _)]
    refine sumO_congr fun o ho => ?_
    by_cases q : tb (RSv en' mm (gu &&& (fire ^^^ (-1))) fire o) kn = true
    · rw [if_pos q, trm_yes (P := fun o => tb (RSv en' mm (gu &&& (fire ^^^ (-1))) fire o) kn) ⟨fun l _ z => (by rw [tb_0] at z; cases z), q⟩, wgt_all _ _ (by omega) v7 (fun l _ => tb_0 l), e1]
    · rw [if_neg q]
      exact (trm_no (P := fun o => tb (RSv en' mm (gu &&& (fire ^^^ (-1))) fire o) kn) (fun z => q z.2)).symm
  by_cases hv : chanV nn mm k fire gu a b what
  · obtain ⟨u, l, hu, hl, hl0, c1, c2, c3, c4⟩ := key hv
    have hg : gcdQ 60 (lN u) (lN l) = some (lN (Nat.gcd u l)) := gcdQ_of 60 u l (by have := fib_60; omega) hu (by omega)
    have hgp : 0 < Nat.gcd u l := Nat.gcd_pos_of_pos_right u hl0
    have hgl : Nat.gcd u l ≤ l := Nat.le_of_dvd hl0 (Nat.gcd_dvd_right u l)
    rw [c1, c2, hg]
    refine ⟨fun _ => ⟨rfl, fun q => by have := (lN_nz (by omega)).mp (show lN (Nat.gcd u l) = 0 from q); omega⟩, ?_⟩
    obtain ⟨v1, v2, v3, v4, v5, v6, v7⟩ := hv
    unfold chanO chanceR
    rw [if_pos v1, if_pos v2, if_pos v3, if_pos v4, if_pos v5, if_pos v6, if_pos v7, if_pos v1, if_pos v2, if_pos v3, if_pos v4, if_pos v5, if_pos v6, if_pos v7, c3, c4, frac_nat hu (by omega) hl0]
    show _ = (if what = 0 then lN u / lN (Nat.gcd u l) else lN l / lN (Nat.gcd u l))
    by_cases w : what = 0
    · rw [if_pos w, if_pos w, pk_lDiv hu hgp (by omega)]
    · rw [if_neg w, if_neg w, pk_lDiv (by omega) hgp (by omega)]
  · refine ⟨fun q => absurd q hv, ?_⟩
    unfold chanO chanceR
    by_cases v1 : 0 ≤ k ∧ k ≤ nI nn - 1
    · rw [if_pos v1, if_pos v1]
      by_cases v2 : 1 ≤ fire ∧ fire ≤ allI (nI nn)
      · rw [if_pos v2, if_pos v2]
        by_cases v3 : 0 ≤ gu ∧ gu ≤ allI (nI nn)
        · rw [if_pos v3, if_pos v3]
          by_cases v4 : 1 ≤ b ∧ b ≤ 6
          · rw [if_pos v4, if_pos v4]
            by_cases v5 : 0 ≤ a ∧ a ≤ b
            · rw [if_pos v5, if_pos v5]
              by_cases v6 : 0 ≤ what ∧ what ≤ 1
              · rw [if_pos v6, if_pos v6, if_neg (fun v7 => hv ⟨v1, v2, v3, v4, v5, v6, v7⟩), if_neg (fun v7 => hv ⟨v1, v2, v3, v4, v5, v6, v7⟩)]
              · rw [if_neg v6, if_neg v6]
            · rw [if_neg v5, if_neg v5]
          · rw [if_neg v4, if_neg v4]
        · rw [if_neg v3, if_neg v3]
      · rw [if_neg v2, if_neg v2]
    · rw [if_neg v1, if_neg v1]
/-! counting the bits of a long -/
def m55 : Nat → Nat
  | 0 => 0
  | k + 1 => 85 + 256 * m55 k
def m33 : Nat → Nat
  | 0 => 0
  | k + 1 => 51 + 256 * m33 k
def m0f : Nat → Nat
  | 0 => 0
  | k + 1 => 15 + 256 * m0f k
theorem and_byte {z w a b : Nat} (hz : z < 256) (hw : w < 256) : (z + 256 * a) &&& (w + 256 * b) = (z &&& w) + 256 * (a &&& b) := by
  have h1 : ((z + 256 * a) &&& (w + 256 * b)) % 2 ^ 8 = (z &&& w) := by
    rw [Nat.and_mod_two_pow, show (z + 256 * a) % 2 ^ 8 = z by omega, show (w + 256 * b) % 2 ^ 8 = w by omega]
  have h2 : ((z + 256 * a) &&& (w + 256 * b)) / 2 ^ 8 = (a &&& b) := by
    rw [Nat.and_div_two_pow, show (z + 256 * a) / 2 ^ 8 = a by omega, show (w + 256 * b) / 2 ^ 8 = b by omega]
  omega
def pA (z : Nat) : Nat := z - ((z / 2) &&& 85)
def pB (z : Nat) : Nat := (z &&& 51) + ((z / 4) &&& 51)
def pC (z : Nat) : Nat := (z % 16 + z / 16) % 16
def sA (k x : Nat) : Nat := x - ((x / 2) &&& m55 k)
def sB (k x : Nat) : Nat := (x &&& m33 k) + ((x / 4) &&& m33 k)
def sC (k x : Nat) : Nat := (x + x / 16) &&& m0f k
theorem byte_A : ∀ z, z < 256 → ∀ e, e < 2 → (z / 2 + 128 * e) &&& 85 = (z / 2) &&& 85 := by decide +kernel
theorem byte_B : ∀ z, z < 256 → ∀ e, e < 4 → (z / 4 + 64 * e) &&& 51 = (z / 4) &&& 51 := by decide +kernel
theorem byte_C : ∀ z, z < 256 → z &&& 15 = z % 16 := by decide +kernel
theorem byte_P : ∀ z, z < 256 → pA z < 256 ∧ pB (pA z) % 16 ≤ 4 ∧ pB (pA z) / 16 ≤ 4 ∧ pC (pB (pA z)) ≤ 8 := by decide +kernel
theorem sA_S {k z a : Nat} (hz : z < 256) : sA (k + 1) (z + 256 * a) = pA z + 256 * sA k a := by
  have e : (z + 256 * a) / 2 = (z / 2 + 128 * (a % 2)) + 256 * (a / 2) := by omega
  have h1 : ((z / 2) &&& 85) ≤ z / 2 := Nat.and_le_left
  have h2 : ((a / 2) &&& m55 k) ≤ a / 2 := Nat.and_le_left
  unfold sA pA
  rw [e, m55, and_byte (by omega) (by omega), byte_A z hz (a % 2) (by omega)]
  omega
theorem sB_S {k z a : Nat} (hz : z < 256) : sB (k + 1) (z + 256 * a) = pB z + 256 * sB k a := by
  have e : (z + 256 * a) / 4 = (z / 4 + 64 * (a % 4)) + 256 * (a / 4) := by omega
  unfold sB pB
  rw [e, m33, and_byte hz (by omega), and_byte (by omega) (by omega), byte_B z hz (a % 4) (by omega)]
  omega
theorem sC_S {k z a : Nat} (h1 : z % 16 ≤ 4) (h2 : z / 16 ≤ 4) (h3 : a % 16 ≤ 4) : sC (k + 1) (z + 256 * a) = pC z + 256 * sC k a := by
  have e : z + 256 * a + (z + 256 * a) / 16 = (z + z / 16 + 16 * (a % 16)) + 256 * (a + a / 16) := by omega
  unfold sC pC
  rw [e, m0f, and_byte (by omega) (by omega), byte_C _ (by omega)]
  omega
/-- a number out of its bytes -/
def ofB (f : Nat → Nat) : Nat → Nat → Nat
  | 0, _ => 0
  | k + 1, j => f j + 256 * ofB f k (j + 1)
theorem ofB_abc {f : Nat → Nat} (hf : ∀ j, f j < 256) : ∀ k j, sC k (sB k (sA k (ofB f k j))) = ofB (fun i => pC (pB (pA (f i)))) k j ∧ (sB k (sA k (ofB f k j))) % 16 ≤ 4
  | 0, j => ⟨by simp [ofB, sA, sB, sC, m0f], by simp [ofB, sA, sB, m33]⟩
  | k + 1, j => by
    obtain ⟨h1, h2⟩ := ofB_abc hf k (j + 1)
    obtain ⟨p1, p2, p3, -⟩ := byte_P (f j) (hf j)
    show sC (k + 1) (sB (k + 1) (sA (k + 1) (f j + 256 * ofB f k (j + 1)))) = pC (pB (pA (f j))) + 256 * ofB _ k (j + 1) ∧ (sB (k + 1) (sA (k + 1) (f j + 256 * ofB f k (j + 1)))) % 16 ≤ 4
    rw [sA_S (hf j), sB_S p1, sC_S p2 p3 h2, h1]
    exact ⟨rfl, by omega⟩
theorem ofB_div {x : Nat} : ∀ k j, ofB (fun i => x / 256 ^ i % 256) k j = x / 256 ^ j % 256 ^ k
  | 0, j => by simp [ofB, Nat.mod_one]
  | k + 1, j => by
    show x / 256 ^ j % 256 + 256 * ofB _ k (j + 1) = _
    rw [ofB_div k (j + 1), Nat.pow_succ 256 j, ← Nat.div_div_eq_div_mul, Nat.pow_succ, Nat.mul_comm (256 ^ k) 256, Nat.mod_mul]
/-- how many bits below k -/
def cntL (x : Nat) : Nat → Nat
  | 0 => 0
  | k + 1 => cntL x k + if x.testBit k = true then 1 else 0
theorem cntL_byte : ∀ z, z < 256 → pC (pB (pA z)) = cntL z 8 := by decide +kernel
theorem cntL_off (x j : Nat) : ∀ k, cntL x (8 * j + k) = cntL x (8 * j) + cntL (x / 256 ^ j) k
  | 0 => rfl
  | k + 1 => by
    show cntL x (8 * j + k) + (if x.testBit (8 * j + k) = true then 1 else 0) = cntL x (8 * j) + (cntL (x / 256 ^ j) k + if (x / 256 ^ j).testBit k = true then 1 else 0)
    rw [cntL_off x j k, show (256 : Nat) ^ j = 2 ^ (8 * j) by rw [Nat.pow_mul], Nat.testBit_div_two_pow, Nat.add_comm k]
    omega
theorem cntL_mod (x : Nat) : ∀ k, k ≤ 8 → cntL (x % 256) k = cntL x k
  | 0, _ => rfl
  | k + 1, h => by
    show cntL (x % 256) k + (if (x % 256).testBit k = true then 1 else 0) = cntL x k + (if x.testBit k = true then 1 else 0)
    rw [cntL_mod x k (by omega), show (256 : Nat) = 2 ^ 8 from rfl, Nat.testBit_mod_two_pow, decide_eq_true (show k < 8 by omega), Bool.true_and]
theorem cntL_8 (x j : Nat) : cntL x (8 * (j + 1)) = cntL x (8 * j) + pC (pB (pA (x / 256 ^ j % 256))) := by
  rw [cntL_byte _ (Nat.mod_lt _ (by decide)), cntL_mod _ 8 (Nat.le_refl _), ← cntL_off]
  rfl
def popN (x : Nat) : Nat :=
  let c := sC 8 (sB 8 (sA 8 x))
  let d := c + c / 256
  let e := d + d / 65536
  let f := e + e / 4294967296
  f % 128
theorem popN_eq {x : Nat} (hx : x < 2 ^ 64) : popN x = cntL x 64 := by
  have hb : x = ofB (fun i => x / 256 ^ i % 256) 8 0 := by
    rw [ofB_div 8 0, Nat.pow_zero, Nat.div_one]
    exact (Nat.mod_eq_of_lt hx).symm
  have hc : sC 8 (sB 8 (sA 8 x)) = ofB (fun i => pC (pB (pA (x / 256 ^ i % 256)))) 8 0 := by
    have h := (ofB_abc (f := fun i => x / 256 ^ i % 256) (fun j => Nat.mod_lt _ (by decide)) 8 0).1
    rw [← hb] at h
    exact h
  have hp : ∀ i, pC (pB (pA (x / 256 ^ i % 256))) ≤ 8 := fun i => (byte_P _ (Nat.mod_lt _ (by decide))).2.2.2
  have h0 := cntL_8 x 0
  have h1 := cntL_8 x 1
  have h2 := cntL_8 x 2
  have h3 := cntL_8 x 3
  have h4 := cntL_8 x 4
  have h5 := cntL_8 x 5
  have h6 := cntL_8 x 6
  have h7 := cntL_8 x 7
  have e0 : cntL x (8 * 0) = 0 := rfl
  unfold popN
  rw [hc]
  show _ = cntL x (8 * (7 + 1))
  rw [h7, show 8 * 7 = 8 * (6 + 1) from rfl, h6, show 8 * 6 = 8 * (5 + 1) from rfl, h5, show 8 * 5 = 8 * (4 + 1) from rfl, h4, show 8 * 4 = 8 * (3 + 1) from rfl, h3, show 8 * 3 = 8 * (2 + 1) from rfl, h2, show 8 * 2 = 8 * (1 + 1) from rfl, h1, show 8 * 1 = 8 * (0 + 1) from rfl, h0, e0]
  simp only [ofB, Nat.zero_add, Nat.reduceAdd]
  have q0 := hp 0
  have q1 := hp 1
  have q2 := hp 2
  have q3 := hp 3
  have q4 := hp 4
  have q5 := hp 5
  have q6 := hp 6
  have q7 := hp 7
  generalize pC (pB (pA (x / 256 ^ 0 % 256))) = c0 at *
  generalize pC (pB (pA (x / 256 ^ 1 % 256))) = c1 at *
  generalize pC (pB (pA (x / 256 ^ 2 % 256))) = c2 at *
  generalize pC (pB (pA (x / 256 ^ 3 % 256))) = c3 at *
  generalize pC (pB (pA (x / 256 ^ 4 % 256))) = c4 at *
  generalize pC (pB (pA (x / 256 ^ 5 % 256))) = c5 at *
  generalize pC (pB (pA (x / 256 ^ 6 % 256))) = c6 at *
  generalize pC (pB (pA (x / 256 ^ 7 % 256))) = c7 at *
  clear h0 h1 h2 h3 h4 h5 h6 h7 e0 hc hb hx hp
  generalize g7 : c7 + 256 * 0 = r7
  generalize g6 : c6 + 256 * r7 = r6
  generalize g5 : c5 + 256 * r6 = r5
  generalize g4 : c4 + 256 * r5 = r4
  generalize g3 : c3 + 256 * r4 = r3
  generalize g2 : c2 + 256 * r3 = r2
  generalize g1 : c1 + 256 * r2 = r1
  have k1 : (c0 + 256 * r1) / 256 = r1 := by omega
  rw [k1]
  have k2 : (c0 + 256 * r1 + r1) / 65536 = r2 + r3 := by omega
  rw [k2]
  have k3 : (c0 + 256 * r1 + r1 + (r2 + r3)) / 4294967296 = r4 + r5 + r6 + r7 := by omega
  rw [k3]
  omega
theorem lTn {n : Nat} (h : n < 2 ^ 64) : (lN n).toBitVec.toNat = n := by
  show (BitVec.ofNat 64 n).toNat = n
  rw [BitVec.toNat_ofNat]
  exact Nat.mod_eq_of_lt h
theorem lN_and {a b : Nat} (ha : a < 2 ^ 64) (hb : b < 2 ^ 64) : lN a &&& lN b = lN (a &&& b) := by
  apply Int64.toBitVec_inj.mp
  apply BitVec.eq_of_toNat_eq
  rw [Int64.toBitVec_and, BitVec.toNat_and, lTn ha, lTn hb, lTn (Nat.lt_of_le_of_lt Nat.and_le_left ha)]
theorem lN_ushr {n : Nat} (hn : n < 2 ^ 64) (s : Int32) (k : Nat) (hs : ((s.toInt64.toUInt64 &&& Int64.toUInt64 63).toBitVec % 64).toNat = k) : ((lN n).toUInt64 >>> (s.toInt64.toUInt64 &&& Int64.toUInt64 63)).toInt64 = lN (n / 2 ^ k) := by
  apply Int64.toBitVec_inj.mp
  apply BitVec.eq_of_toNat_eq
  have e : ((lN n).toUInt64 >>> (s.toInt64.toUInt64 &&& Int64.toUInt64 63)).toInt64.toBitVec = (lN n).toBitVec >>> k := by
    rw [← hs]
    exact UInt64.toBitVec_shiftRight _ _
  rw [e, BitVec.toNat_ushiftRight, Nat.shiftRight_eq_div_pow, lTn hn, lTn (Nat.lt_of_le_of_lt (Nat.div_le_self _ _) hn)]
theorem lN_of (x : Int64) : x = lN x.toBitVec.toNat := Int64.toBitVec_inj.mp (BitVec.eq_of_toNat_eq (lTn x.toBitVec.isLt).symm)
theorem popL_eq (x : Int64) : popL x = nI (cntL x.toBitVec.toNat 64) := by
  have hX := x.toBitVec.isLt
  rw [← popN_eq hX]
  conv => lhs; rw [lN_of x]
  generalize x.toBitVec.toNat = X at *
  have k55 : m55 8 = 6148914691236517205 := by decide
  have k33 : m33 8 = 3689348814741910323 := by decide
  have k0f : m0f 8 = 1085102592571150095 := by decide
  have hA1 : ((X / 2) &&& m55 8) ≤ X / 2 := Nat.and_le_left
  have hA : sA 8 X ≤ X := Nat.sub_le _ _
  have eA : lN X - (((lN X).toUInt64 >>> ((1 : Int32).toInt64.toUInt64 &&& Int64.toUInt64 63)).toInt64 &&& 6148914691236517205) = lN (sA 8 X) := by
    rw [lN_ushr hX 1 1 (by decide), show X / 2 ^ 1 = X / 2 from rfl, show (6148914691236517205 : Int64) = lN (m55 8) by rw [k55]; rfl, lN_and (by omega) (by rw [k55]; omega), lN_sub (by omega)]
    rfl
  have hB1 : ((sA 8 X) &&& m33 8) ≤ m33 8 := Nat.and_le_right
  have hB2 : ((sA 8 X / 4) &&& m33 8) ≤ m33 8 := Nat.and_le_right
  have hB : sB 8 (sA 8 X) ≤ 7378697629483820646 := by
    unfold sB
    omega
  have eB : (lN (sA 8 X) &&& 3689348814741910323) + (((lN (sA 8 X)).toUInt64 >>> ((2 : Int32).toInt64.toUInt64 &&& Int64.toUInt64 63)).toInt64 &&& 3689348814741910323) = lN (sB 8 (sA 8 X)) := by
    rw [lN_ushr (by omega) 2 2 (by decide), show (3689348814741910323 : Int64) = lN (m33 8) by rw [k33]; rfl, lN_and (by omega) (by rw [k33]; omega), lN_and (by omega) (by rw [k33]; omega), lN_add]
    rfl
  have hC : sC 8 (sB 8 (sA 8 X)) ≤ m0f 8 := Nat.and_le_right
  have eC : (lN (sB 8 (sA 8 X)) + ((lN (sB 8 (sA 8 X))).toUInt64 >>> ((4 : Int32).toInt64.toUInt64 &&& Int64.toUInt64 63)).toInt64) &&& 1085102592571150095 = lN (sC 8 (sB 8 (sA 8 X))) := by
    rw [lN_ushr (by omega) 4 4 (by decide), lN_add, show (1085102592571150095 : Int64) = lN (m0f 8) by rw [k0f]; rfl, lN_and (by omega) (by rw [k0f]; omega)]
    rfl
  unfold popL popN
  dsimp only
  rw [eA, eB, eC]
  generalize sC 8 (sB 8 (sA 8 X)) = c at *
  rw [k0f] at hC
  rw [lN_ushr (by omega) 8 8 (by decide), lN_add]
  have hd : c + c / 2 ^ 8 ≤ 1100000000000000000 := by omega
  rw [show c + c / 256 = c + c / 2 ^ 8 from rfl]
  generalize c + c / 2 ^ 8 = d at *
  rw [lN_ushr (by omega) 16 16 (by decide), lN_add, show d + d / 65536 = d + d / 2 ^ 16 from rfl]
  have he : d + d / 2 ^ 16 ≤ 1200000000000000000 := by omega
  generalize d + d / 2 ^ 16 = e at *
  rw [lN_ushr (by omega) 32 32 (by decide), lN_add, show e + e / 4294967296 = e + e / 2 ^ 32 from rfl, lN_i]
  generalize e + e / 2 ^ 32 = f
  have e2 : nI f &&& 127 = nI (f % 2 ^ 32) &&& 127 := by
    have : nI f = nI (f % 2 ^ 32) := Int32.toBitVec_inj.mp (BitVec.eq_of_toNat_eq (by
      show (BitVec.ofNat 32 f).toNat = (BitVec.ofNat 32 (f % 2 ^ 32)).toNat
      rw [BitVec.toNat_ofNat, BitVec.toNat_ofNat, Nat.mod_mod]))
    rw [this]
  rw [e2, pk_andN (Nat.mod_lt _ (by decide)) 7 (by decide)]
  exact congrArg nI (by omega)
/-! the board: rows of bits beside squares of numbers -/
def lb (x : Int64) (i : Nat) : Bool := x.toBitVec.getLsbD i
theorem lb_ext {x y : Int64} (h : ∀ i, i < 64 → lb x i = lb y i) : x = y := Int64.toBitVec_inj.mp (BitVec.eq_of_getLsbD_eq (fun i hi => h i hi))
theorem lb_or (x y : Int64) (i : Nat) : lb (x ||| y) i = (lb x i || lb y i) := by unfold lb; rw [Int64.toBitVec_or, BitVec.getLsbD_or]
theorem lb_and (x y : Int64) (i : Nat) : lb (x &&& y) i = (lb x i && lb y i) := by unfold lb; rw [Int64.toBitVec_and, BitVec.getLsbD_and]
theorem lb_xor (x y : Int64) (i : Nat) : lb (x ^^^ y) i = (lb x i ^^ lb y i) := by unfold lb; rw [Int64.toBitVec_xor, BitVec.getLsbD_xor]
theorem lb_m1 : ∀ i, i < 64 → lb (-1) i = true := by decide +kernel
theorem lb_0 (i : Nat) : lb 0 i = false := BitVec.getLsbD_zero
theorem lb_big {x : Int64} {i : Nat} (h : 64 ≤ i) : lb x i = false := BitVec.getLsbD_of_ge _ _ h
theorem lb_not (x : Int64) {i : Nat} (hi : i < 64) : lb (x ^^^ (-1)) i = !lb x i := by rw [lb_xor, lb_m1 i hi]; cases lb x i <;> rfl
theorem lb_bit : ∀ c, c < 49 → ∀ i, i < 64 → lb ((1 : Int64) <<< ((nI c).toInt64 &&& 63)) i = decide (i = c) := by decide +kernel
theorem lb_mid : ∀ i, i < 64 → lb 16777216 i = decide (i = 24) := by decide +kernel
theorem lb_1 : ∀ i, i < 64 → lb 1 i = decide (i = 0) := by decide +kernel
theorem lb_shl (x : Int64) {i : Nat} (hi : i < 64) : lb (x <<< ((1 : Int32).toInt64 &&& 63)) i = (decide (1 ≤ i) && lb x (i - 1)) := by
  show (x.toBitVec <<< (((1 : Int32).toInt64 &&& 63).toBitVec.smod 64).toNat).getLsbD i = _
  rw [show (((1 : Int32).toInt64 &&& 63).toBitVec.smod 64).toNat = 1 by decide, BitVec.getLsbD_shiftLeft, decide_eq_true hi, Bool.true_and]
  by_cases h : 1 ≤ i
  · rw [decide_eq_true h, decide_eq_false (by omega)]; rfl
  · rw [decide_eq_false h, decide_eq_true (by omega)]; rfl
theorem lb_shr (x : Int64) (i : Nat) : lb ((x.toUInt64 >>> ((1 : Int32).toInt64.toUInt64 &&& Int64.toUInt64 63)).toInt64) i = lb x (i + 1) := by
  have e : (x.toUInt64 >>> ((1 : Int32).toInt64.toUInt64 &&& Int64.toUInt64 63)).toInt64.toBitVec = x.toBitVec >>> 1 := by
    have h : (((1 : Int32).toInt64.toUInt64 &&& Int64.toUInt64 63).toBitVec % 64).toNat = 1 := by decide
    rw [← h]
    exact UInt64.toBitVec_shiftRight _ _
  unfold lb
  rw [e, BitVec.getLsbD_ushiftRight, Nat.add_comm]
theorem lb_cnt : ∀ n, n < 64 → (((nI n).toInt64 &&& 63).toBitVec.smod 64).toNat = n := by decide +kernel
theorem lb_ssh (x : Int64) {c : Nat} (hc : c < 64) : ((x >>> ((nI c).toInt64 &&& 63)) &&& 1) = 0 ↔ lb x c = false := by
  have h0 : lb (x >>> ((nI c).toInt64 &&& 63)) 0 = lb x c := by
    show (x.toBitVec.sshiftRight (((nI c).toInt64 &&& 63).toBitVec.smod 64).toNat).getLsbD 0 = _
    rw [lb_cnt c hc, BitVec.getLsbD_sshiftRight, if_pos (by omega), decide_eq_false (by omega : ¬ 64 ≤ 0)]
    simp [lb]
  constructor
  · intro h
    have : lb ((x >>> ((nI c).toInt64 &&& 63)) &&& 1) 0 = false := by rw [h]; exact lb_0 0
    rw [lb_and, h0, lb_1 0 (by omega)] at this
    simpa using this
  · intro h
    refine lb_ext fun i hi => ?_
    rw [lb_and, lb_1 i hi, lb_0]
    by_cases z : i = 0
    · rw [z, h0, h]; rfl
    · rw [decide_eq_false z, Bool.and_false]
theorem lb_at (x : Int64) {c : Nat} (hc : c < 49) : x &&& ((1 : Int64) <<< ((nI c).toInt64 &&& 63)) = 0 ↔ lb x c = false := by
  constructor
  · intro h
    have : lb (x &&& ((1 : Int64) <<< ((nI c).toInt64 &&& 63))) c = false := by rw [h]; exact lb_0 c
    rw [lb_and, lb_bit c hc c (by omega)] at this
    simpa using this
  · intro h
    refine lb_ext fun i hi => ?_
    rw [lb_and, lb_bit c hc i hi, lb_0]
    by_cases z : i = c
    · rw [z, h]; rfl
    · rw [decide_eq_false z, Bool.and_false]
theorem uL_s {f : RowL} {k : Nat} {x : Int64} : vp_updL f k x k = x := pk_uLs
theorem uL_n {f : RowL} {k j : Nat} {x : Int64} (h : j ≠ k) : vp_updL f k x j = f j := pk_uLn h
def dst (X Y : Nat) : Nat := (X - 30) + (30 - X) + ((Y - 30) + (30 - Y))
def CR (k : Nat) (bu gd : RowL) (bb : Row) : Prop :=
  (∀ X Y, X ≤ 60 → Y ≤ 60 → (bb (61 * Y + X) = 0 ∨ bb (61 * Y + X) = 1 ∨ bb (61 * Y + X) = 2) ∧ (bb (61 * Y + X) = 1 → dst X Y ≤ k)) ∧
  (∀ c r, c < 49 → r < 49 → (bb (61 * (r + 6) + (c + 6)) = 1 ↔ lb (bu r) c = true) ∧ (bb (61 * (r + 6) + (c + 6)) = 2 ↔ lb (gd r) c = true)) ∧
  (∀ c r, r < 49 → 49 ≤ c → lb (bu r) c = false)
def WL (wa wx wy wt : Row) (sq : Nat) : Prop := ∀ k, k < sq → ∃ X Y, X ≤ 60 ∧ Y ≤ 60 ∧ wx k = crd X ∧ wy k = crd Y ∧ wa (3 * k) = crd X ∧ wa (3 * k + 1) = crd Y ∧ wt k = wa (3 * k + 2)
theorem crd_in : ∀ X, X < 61 → ((-24 ≤ crd X ∧ crd X ≤ 24) ↔ (6 ≤ X ∧ X ≤ 54)) := by decide +kernel
theorem crd_24 : ∀ c, c < 49 → crd (c + 6) + 24 = nI c := by decide +kernel
theorem wall_ok {wa wx wy wt : Row} {sq : Nat} (h : WL wa wx wy wt sq) : WallOK wa sq := fun k hk => by
  obtain ⟨X, Y, hX, hY, -, -, e1, e2, -⟩ := h k hk
  have e : 61 * (wa (3 * k + 1) + 30) + wa (3 * k) + 30 = nI (61 * Y + X) := by rw [e1, e2, crd_sq]
  have es : sqM wa k = 61 * Y + X := by
    unfold sqM
    rw [e, nI_clamp (by omega)]
  rw [es]
  exact ⟨e, by omega⟩
theorem sqM_eq {wa : Row} {k X Y : Nat} (hX : X ≤ 60) (hY : Y ≤ 60) (e1 : wa (3 * k) = crd X) (e2 : wa (3 * k + 1) = crd Y) : sqM wa k = 61 * Y + X := by
  unfold sqM
  rw [e1, e2, crd_sq, nI_clamp (by omega)]
theorem int_12 : (1 : Int32) ≠ 2 ∧ (0 : Int32) ≠ 1 ∧ (0 : Int32) ≠ 2 ∧ (3 : Int32) ≠ 0 ∧ (3 : Int32) ≠ 1 ∧ (3 : Int32) ≠ 2 ∧ (2 : Int32) ≠ 0 ∧ (1 : Int32) ≠ 0 := by decide
/-- guards on one square -/
theorem cr_guard {k : Nat} {bu gd : RowL} {bb : Row} (h : CR k bu gd bb) {c r : Nat} (hc : c < 49) (hr : r < 49) (hb : lb (bu r) c = false) : CR k bu (vp_updL gd r (gd r ||| ((1 : Int64) <<< ((nI c).toInt64 &&& 63)))) (upd bb (61 * (r + 6) + (c + 6)) 2) := by
  obtain ⟨h1, h2, h3⟩ := h
  refine ⟨fun X Y hX hY => ?_, fun c' r' hc' hr' => ?_, h3⟩
  · by_cases z : 61 * Y + X = 61 * (r + 6) + (c + 6)
    · rw [z, pk_us]
      exact ⟨Or.inr (Or.inr rfl), fun q => absurd q (by decide)⟩
    · rw [pk_un z]
      exact h1 X Y hX hY
  · by_cases z : 61 * (r' + 6) + (c' + 6) = 61 * (r + 6) + (c + 6)
    · have e1 : r' = r := by omega
      have e2 : c' = c := by omega
      subst e1; subst e2
      rw [pk_us, uL_s, lb_or, lb_bit c' hc c' (by omega), decide_eq_true rfl, Bool.or_true, hb]
      exact ⟨⟨fun q => absurd q (by decide), fun q => by cases q⟩, ⟨fun _ => rfl, fun _ => rfl⟩⟩
    · rw [pk_un z]
      refine ⟨(h2 c' r' hc' hr').1, ?_⟩
      by_cases e : r' = r
      · subst e
        have e2 : c' ≠ c := fun q => z (by rw [q])
        rw [uL_s, lb_or, lb_bit c hc c' (by omega), decide_eq_false e2, Bool.or_false]
        exact (h2 c' r' hc' hr').2
      · rw [uL_n e]
        exact (h2 c' r' hc' hr').2
theorem cr_far {k : Nat} {bu gd : RowL} {bb : Row} (h : CR k bu gd bb) {X Y : Nat} (hX : X ≤ 60) (hY : Y ≤ 60) (hout : ¬ ((6 ≤ X ∧ X ≤ 54) ∧ (6 ≤ Y ∧ Y ≤ 54))) : CR k bu gd (upd bb (61 * Y + X) 2) := by
  obtain ⟨h1, h2, h3⟩ := h
  refine ⟨fun X' Y' hX' hY' => ?_, fun c' r' hc' hr' => ?_, h3⟩
  · by_cases z : 61 * Y' + X' = 61 * Y + X
    · rw [z, pk_us]
      exact ⟨Or.inr (Or.inr rfl), fun q => absurd q (by decide)⟩
    · rw [pk_un z]
      exact h1 X' Y' hX' hY'
  · rw [pk_un (by omega)]
    exact h2 c' r' hc' hr'
theorem upd_same {f : Row} {k : Nat} {x : Int32} (h : f k = x) : upd f k x = f := by
  funext j
  by_cases q : j = k
  · subst q; rw [pk_us, h]
  · rw [pk_un q]
/-- the guards of a tick -/
theorem build_eq {k0 sq : Nat} {bu : RowL} {wa wx wy wt : Row} (hk0 : k0 ≤ 23) (hW : WL wa wx wy wt sq) (t lo : Int32) {gd : RowL} {bb : Row} (h : CR k0 bu gd bb) : ∀ k, k ≤ sq → (pgA bu wx wy wt t (lo, gd) k).1 = (bldA wa t (bb, lo) k).2 ∧ CR k0 bu (pgA bu wx wy wt t (lo, gd) k).2 (bldA wa t (bb, lo) k).1
  | 0, _ => ⟨rfl, h⟩
  | k + 1, hk => by
    obtain ⟨e, hc⟩ := build_eq hk0 hW t lo h k (by omega)
    obtain ⟨X, Y, hX, hY, w1, w2, w3, w4, w5⟩ := hW k (by omega)
    rw [pgA, bldA]
    generalize pgA bu wx wy wt t (lo, gd) k = x at *
    generalize bldA wa t (bb, lo) k = q at *
    rw [w5]
    by_cases ht : wa (3 * k + 2) = t
    · rw [if_pos ht]
      have es : sqM wa k = 61 * Y + X := sqM_eq hX hY w3 w4
      unfold bldS
      rw [es]
      by_cases hin : (6 ≤ X ∧ X ≤ 54) ∧ (6 ≤ Y ∧ Y ≤ 54)
      · rw [if_pos ⟨ht, by rw [w1]; exact (crd_in X (by omega)).mpr hin.1, by rw [w2]; exact (crd_in Y (by omega)).mpr hin.2⟩]
        obtain ⟨c, rfl⟩ : ∃ c, X = c + 6 := ⟨X - 6, by omega⟩
        obtain ⟨r, rfl⟩ : ∃ r, Y = r + 6 := ⟨Y - 6, by omega⟩
        rw [w1, w2, crd_24 c (by omega), crd_24 r (by omega), nI_clamp (by omega)]
        have hcell := (hc.2.1 c r (by omega) (by omega)).1
        unfold pgS
        by_cases hb : lb (bu r) c = true
        · rw [if_neg (fun z => by rw [(lb_at _ (by omega)).mp ((cmp_eq0 _ _).mp z)] at hb; cases hb), if_pos (hcell.mpr hb)]
          refine ⟨by show x.1 + 1 = q.2 + 1; rw [e], ?_⟩
          show CR k0 bu x.2 (upd q.1 (61 * (r + 6) + (c + 6)) 1)
          rw [upd_same (hcell.mpr hb)]
          exact hc
        · have hb : lb (bu r) c = false := by
            cases z : lb (bu r) c
            · rfl
            · exact absurd z hb
          rw [if_pos ((cmp_eq0 _ _).mpr ((lb_at _ (by omega)).mpr hb)), if_neg (fun z => by rw [hcell.mp z] at hb; cases hb)]
          exact ⟨by show x.1 = q.2 + 0; rw [e, Int32.add_zero], cr_guard hc (by omega) (by omega) hb⟩
      · rw [if_neg (fun z => hin ⟨(crd_in X (by omega)).mp (by rw [← w1]; exact z.2.1), (crd_in Y (by omega)).mp (by rw [← w2]; exact z.2.2)⟩)]
        rw [if_neg (fun z => by
          have := (hc.1 X Y hX hY).2 z
          unfold dst at this
          omega)]
        exact ⟨by show x.1 = q.2 + 0; rw [e, Int32.add_zero], cr_far hc hX hY hin⟩
    · rw [if_neg (fun z => ht z.1), if_neg ht]
      exact ⟨e, hc⟩
/-- the reference's spread: what each square comes to -/
theorem tch_is {bb : Row} {X Y : Nat} (hX : X ≤ 60) (hY : Y ≤ 60) : tchB bb X Y = true ↔ ((X ≠ 0 ∧ bb (61 * Y + (X - 1)) = 1) ∨ (X < 60 ∧ bb (61 * Y + (X + 1)) = 1) ∨ (Y ≠ 0 ∧ bb (61 * (Y - 1) + X) = 1) ∨ (Y < 60 ∧ bb (61 * (Y + 1) + X) = 1)) := by
  unfold tchB
  rw [decide_eq_true_iff, crd_le (by omega), crd_ge (by omega), crd_le (by omega), crd_ge (by omega), Nat.not_le, Nat.not_le]
def caught (bb : Row) (j : Nat) : Prop := bb j = 0 ∧ tchB bb (j % 61) (j / 61) = true
def PQ (bb : Row) (N : Nat) (q : RBs) : Prop := (∀ j, (j < N ∧ caught bb j → q.1 j = 3) ∧ (¬ (j < N ∧ caught bb j) → q.1 j = bb j)) ∧ (q.2 = true ↔ ∃ j, j < N ∧ caught bb j)
theorem pq_one {bb : Row} {N : Nat} {q : RBs} (h : PQ bb N q) (j : Nat) : q.1 j = 1 ↔ bb j = 1 := by
  by_cases z : j < N ∧ caught bb j
  · rw [(h.1 j).1 z]
    exact ⟨fun w => absurd w (by decide), fun w => by rw [z.2.1] at w; exact absurd w (by decide)⟩
  · rw [(h.1 j).2 z]
theorem pq_cell {bb : Row} {X Y : Nat} (hX : X ≤ 60) (hY : Y ≤ 60) {q : RBs} (h : PQ bb (61 * Y + X) q) : PQ bb (61 * Y + X + 1) (cellS X Y q) := by
  have e1 : (61 * Y + X) % 61 = X := by omega
  have e2 : (61 * Y + X) / 61 = Y := by omega
  have hv : q.1 (61 * Y + X) = bb (61 * Y + X) := (h.1 _).2 (fun z => by omega)
  have ht : tchB q.1 X Y = true ↔ tchB bb X Y = true := by
    rw [tch_is hX hY, tch_is hX hY, pq_one h, pq_one h, pq_one h, pq_one h]
  unfold cellS
  by_cases z : q.1 (61 * Y + X) = 0 ∧ tchB q.1 X Y = true
  · rw [if_pos z]
    have hcg : caught bb (61 * Y + X) := ⟨by rw [← hv]; exact z.1, by rw [e1, e2]; exact ht.mp z.2⟩
    refine ⟨fun j => ?_, ⟨fun _ => ⟨_, Nat.lt_succ_self _, hcg⟩, fun _ => rfl⟩⟩
    by_cases w : j = 61 * Y + X
    · rw [w]
      refine ⟨fun _ => pk_us, fun g => absurd ⟨Nat.lt_succ_self _, hcg⟩ g⟩
    · show (_ → upd q.1 (61 * Y + X) 3 j = 3) ∧ (_ → upd q.1 (61 * Y + X) 3 j = bb j)
      rw [pk_un w]
      exact ⟨fun g => (h.1 j).1 ⟨by omega, g.2⟩, fun g => (h.1 j).2 (fun g2 => g ⟨by omega, g2.2⟩)⟩
  · rw [if_neg z]
    have hcg : ¬ caught bb (61 * Y + X) := fun g => z ⟨by rw [hv]; exact g.1, ht.mpr (by have := g.2; rw [e1, e2] at this; exact this)⟩
    refine ⟨fun j => ?_, ?_⟩
    · by_cases w : j = 61 * Y + X
      · rw [w]
        exact ⟨fun g => absurd g.2 hcg, fun _ => hv⟩
      · exact ⟨fun g => (h.1 j).1 ⟨by omega, g.2⟩, fun g => (h.1 j).2 (fun g2 => g ⟨by omega, g2.2⟩)⟩
    · rw [h.2]
      constructor
      · rintro ⟨j, g1, g2⟩
        exact ⟨j, by omega, g2⟩
      · rintro ⟨j, g1, g2⟩
        refine ⟨j, ?_, g2⟩
        by_cases w : j = 61 * Y + X
        · rw [w] at g2; exact absurd g2 hcg
        · omega
theorem pq_row {bb : Row} {Y : Nat} (hY : Y ≤ 60) {q : RBs} (h : PQ bb (61 * Y) q) : ∀ X, X ≤ 61 → PQ bb (61 * Y + X) (bxA q Y X)
  | 0, _ => h
  | X + 1, hX => pq_cell (by omega) hY (pq_row hY h X (by omega))
theorem pq_all {bb : Row} {w : Nat} (hw : w = 61) : ∀ Y, Y ≤ 61 → PQ bb (61 * Y) (byA w (bb, false) Y)
  | 0, _ => ⟨fun j => ⟨fun g => by omega, fun _ => rfl⟩, ⟨fun g => (by cases g), fun ⟨j, g, _⟩ => by omega⟩⟩
  | Y + 1, hY => by
    have h : PQ bb (61 * Y + w) (bxA (byA w (bb, false) Y) Y w) := pq_row (show Y ≤ 60 by omega) (pq_all hw Y (by omega)) w (by omega)
    rw [show 61 * (Y + 1) = 61 * Y + w by omega]
    exact h
theorem one_of {bb : Row} {w : Nat} (hw : w = 61) {X Y : Nat} (hX : X ≤ 60) (hY : Y ≤ 60) (h3 : bb (61 * Y + X) ≠ 3) : (bb (61 * Y + X) = 0 ∧ tchB bb X Y = true → oneF (byA w (bb, false) w).1 3721 (61 * Y + X) = 1) ∧ (¬ (bb (61 * Y + X) = 0 ∧ tchB bb X Y = true) → oneF (byA w (bb, false) w).1 3721 (61 * Y + X) = bb (61 * Y + X)) := by
  have h := pq_all (bb := bb) hw w (by omega)
  have e1 : (61 * Y + X) % 61 = X := by omega
  have e2 : (61 * Y + X) / 61 = Y := by omega
  have hl : 61 * Y + X < 61 * w := by omega
  have hc : caught bb (61 * Y + X) ↔ (bb (61 * Y + X) = 0 ∧ tchB bb X Y = true) := by unfold caught; rw [e1, e2]
  generalize byA w (bb, false) w = q at *
  unfold oneF
  rw [if_pos (show 61 * Y + X < 3721 by omega)]
  constructor
  · intro z
    rw [(h.1 _).1 ⟨hl, hc.mpr z⟩, if_pos rfl]
  · intro z
    rw [(h.1 _).2 (fun g => z (hc.mp g.2)), if_neg h3]
/-- the class's spread, a bit -/
theorem rowI_up {bu : RowL} {k : Nat} (hk : k < 49) : rowI bu (nI k - 1) = if k = 0 then 0 else bu (k - 1) := by
  unfold rowI
  by_cases h : k = 0
  · subst h
    rw [if_pos (by decide), if_pos rfl]
  · rw [if_neg h, show nI k - 1 = nI (k - 1) from pk_sub (a := k) (b := 1) (by omega), if_neg (nI_pos (by omega)), if_pos (show nI (k - 1) < 49 from (nI_ltI (b := 49) (by omega) (by omega)).mpr (by omega)), nI_clamp (by omega)]
theorem rowI_dn {bu : RowL} {k : Nat} (hk : k < 49) : rowI bu (nI (k + 1)) = if k + 1 < 49 then bu (k + 1) else 0 := by
  unfold rowI
  rw [if_neg (nI_pos (by omega)), nI_clamp (by omega)]
  by_cases h : k + 1 < 49
  · rw [if_pos h, if_pos (show nI (k + 1) < 49 from (nI_ltI (b := 49) (by omega) (by omega)).mpr h)]
  · rw [if_neg h, if_neg (show ¬ nI (k + 1) < 49 from fun z => h ((nI_ltI (b := 49) (by omega) (by omega)).mp z))]
theorem lb_spr {bu gd : RowL} {r i : Nat} (hr : r < 49) (hi : i < 64) : lb (sprR bu gd r) i = true ↔ (lb (bu r) i = true ∨ (((1 ≤ i ∧ lb (bu r) (i - 1) = true) ∨ lb (bu r) (i + 1) = true ∨ (r ≠ 0 ∧ lb (bu (r - 1)) i = true) ∨ (r + 1 < 49 ∧ lb (bu (r + 1)) i = true)) ∧ lb (gd r) i = false)) := by
  unfold sprR
  rw [lb_or, lb_and, lb_or, lb_or, lb_or, lb_shl _ hi, lb_shr, lb_not _ hi, rowI_up hr, rowI_dn hr]
  have e1 : lb (if r = 0 then 0 else bu (r - 1)) i = true ↔ (r ≠ 0 ∧ lb (bu (r - 1)) i = true) := by
    by_cases h : r = 0
    · rw [if_pos h, lb_0]; exact ⟨fun z => (by cases z), fun z => absurd h z.1⟩
    · rw [if_neg h]; exact ⟨fun z => ⟨h, z⟩, fun z => z.2⟩
  have e2 : lb (if r + 1 < 49 then bu (r + 1) else 0) i = true ↔ (r + 1 < 49 ∧ lb (bu (r + 1)) i = true) := by
    by_cases h : r + 1 < 49
    · rw [if_pos h]; exact ⟨fun z => ⟨h, z⟩, fun z => z.2⟩
    · rw [if_neg h, lb_0]; exact ⟨fun z => (by cases z), fun z => absurd z.1 h⟩
  rw [← e1, ← e2]
  simp only [Bool.or_eq_true, Bool.and_eq_true, decide_eq_true_eq, Bool.not_eq_true', or_assoc]
theorem spr_cell {k : Nat} (hk : k ≤ 23) {bu gd : RowL} {bb : Row} (h : CR k bu gd bb) {c r : Nat} (hc : c < 49) (hr : r < 49) : lb (sprR bu gd r) c = true ↔ (bb (61 * (r + 6) + (c + 6)) = 1 ∨ (bb (61 * (r + 6) + (c + 6)) = 0 ∧ tchB bb (c + 6) (r + 6) = true)) := by
  obtain ⟨h1, h2, h3⟩ := h
  have far : ∀ X Y, X ≤ 60 → Y ≤ 60 → ¬ dst X Y ≤ 23 → ¬ bb (61 * Y + X) = 1 := fun X Y a b z q => z (Nat.le_trans ((h1 X Y a b).2 q) hk)
  have nL : (1 ≤ c ∧ lb (bu r) (c - 1) = true) ↔ (c + 6 ≠ 0 ∧ bb (61 * (r + 6) + (c + 6 - 1)) = 1) := by
    by_cases z : 1 ≤ c
    · have := (h2 (c - 1) r (by omega) hr).1
      rw [show c - 1 + 6 = c + 6 - 1 by omega] at this
      rw [this]
      exact ⟨fun g => ⟨by omega, g.2⟩, fun g => ⟨z, g.2⟩⟩
    · refine ⟨fun g => absurd g.1 z, fun g => absurd g.2 (far (c + 6 - 1) (r + 6) (by omega) (by omega) (by unfold dst; omega))⟩
  have nR : lb (bu r) (c + 1) = true ↔ (c + 6 < 60 ∧ bb (61 * (r + 6) + (c + 6 + 1)) = 1) := by
    by_cases z : c + 1 < 49
    · have := (h2 (c + 1) r z hr).1
      rw [show c + 1 + 6 = c + 6 + 1 by omega] at this
      rw [← this]
      exact ⟨fun g => ⟨by omega, g⟩, fun g => g.2⟩
    · rw [h3 (c + 1) r hr (by omega)]
      exact ⟨fun g => (by cases g), fun g => absurd g.2 (far (c + 6 + 1) (r + 6) (by omega) (by omega) (by unfold dst; omega))⟩
  have nU : (r ≠ 0 ∧ lb (bu (r - 1)) c = true) ↔ (r + 6 ≠ 0 ∧ bb (61 * (r + 6 - 1) + (c + 6)) = 1) := by
    by_cases z : r ≠ 0
    · have := (h2 c (r - 1) hc (by omega)).1
      rw [show r - 1 + 6 = r + 6 - 1 by omega] at this
      rw [this]
      exact ⟨fun g => ⟨by omega, g.2⟩, fun g => ⟨z, g.2⟩⟩
    · refine ⟨fun g => absurd g.1 z, fun g => absurd g.2 (far (c + 6) (r + 6 - 1) (by omega) (by omega) (by unfold dst; omega))⟩
  have nD : (r + 1 < 49 ∧ lb (bu (r + 1)) c = true) ↔ (r + 6 < 60 ∧ bb (61 * (r + 6 + 1) + (c + 6)) = 1) := by
    by_cases z : r + 1 < 49
    · have := (h2 c (r + 1) hc z).1
      rw [show r + 1 + 6 = r + 6 + 1 by omega] at this
      rw [this]
      exact ⟨fun g => ⟨by omega, g.2⟩, fun g => ⟨z, g.2⟩⟩
    · refine ⟨fun g => absurd g.1 z, fun g => absurd g.2 (far (c + 6) (r + 6 + 1) (by omega) (by omega) (by unfold dst; omega))⟩
  have hcell := h2 c r hc hr
  have hv := (h1 (c + 6) (r + 6) (by omega) (by omega)).1
  rw [lb_spr hr (by omega), nL, nR, nU, nD, ← tch_is (by omega) (by omega), ← hcell.1]
  constructor
  · rintro (z | ⟨z1, z2⟩)
    · exact Or.inl z
    · rcases hv with v | v | v
      · exact Or.inr ⟨v, z1⟩
      · exact Or.inl v
      · rw [hcell.2.mp v] at z2; cases z2
  · rintro (z | ⟨z1, z2⟩)
    · exact Or.inl z
    · refine Or.inr ⟨z2, ?_⟩
      cases w : lb (gd r) c
      · rfl
      · have := hcell.2.mpr w
        rw [z1] at this
        exact absurd this (by decide)
theorem spr_top {k : Nat} (hk : k ≤ 23) {bu gd : RowL} {bb : Row} (h : CR k bu gd bb) {c r : Nat} (hc : 49 ≤ c) (hr : r < 49) : lb (sprR bu gd r) c = false := by
  by_cases h64 : c < 64
  · cases w : lb (sprR bu gd r) c
    · rfl
    · exfalso
      rcases (lb_spr hr h64).mp w with z | ⟨z, -⟩
      · rw [h.2.2 c r hr hc] at z; cases z
      · rcases z with z | z | z | z
        · by_cases e : c = 49
          · have g := (h.2.1 48 r (by omega) hr).1.mpr (by rw [e] at z; exact z.2)
            have := (h.1 (48 + 6) (r + 6) (by omega) (by omega)).2 g
            unfold dst at this
            omega
          · rw [h.2.2 (c - 1) r hr (by omega)] at z; cases z.2
        · rw [h.2.2 (c + 1) r hr (by omega)] at z; cases z
        · rw [h.2.2 c (r - 1) (by omega) hc] at z; cases z.2
        · rw [h.2.2 c (r + 1) z.1 hc] at z; cases z.2
  · exact lb_big (by omega)
theorem cr_no3 {k : Nat} {bu gd : RowL} {bb : Row} (h : CR k bu gd bb) {X Y : Nat} (hX : X ≤ 60) (hY : Y ≤ 60) : bb (61 * Y + X) ≠ 3 := fun z => by
  rcases (h.1 X Y hX hY).1 with q | q | q <;> rw [z] at q <;> exact absurd q (by decide)
/-- a spread keeps the picture -/
theorem cr_next {k w : Nat} (hk : k ≤ 23) (hw : w = 61) {bu gd bu' : RowL} {bb : Row} (h : CR k bu gd bb) (hbu : ∀ r, r < 49 → bu' r = sprR bu gd r) : CR (k + 1) bu' gd (oneF (byA w (bb, false) w).1 3721) := by
  have hone := fun X Y (hX : X ≤ 60) (hY : Y ≤ 60) => one_of hw hX hY (cr_no3 h hX hY)
  refine ⟨fun X Y hX hY => ?_, fun c r hc hr => ?_, fun c r hr hc => ?_⟩
  · obtain ⟨a, b⟩ := hone X Y hX hY
    by_cases z : bb (61 * Y + X) = 0 ∧ tchB bb X Y = true
    · rw [a z]
      refine ⟨Or.inr (Or.inl rfl), fun _ => ?_⟩
      rcases (tch_is hX hY).mp z.2 with g | g | g | g
      · have := (h.1 (X - 1) Y (by omega) hY).2 g.2
        unfold dst at *
        omega
      · have := (h.1 (X + 1) Y (by omega) hY).2 g.2
        unfold dst at *
        omega
      · have := (h.1 X (Y - 1) hX (by omega)).2 g.2
        unfold dst at *
        omega
      · have := (h.1 X (Y + 1) hX (by omega)).2 g.2
        unfold dst at *
        omega
    · rw [b z]
      exact ⟨(h.1 X Y hX hY).1, fun g => Nat.le_succ_of_le ((h.1 X Y hX hY).2 g)⟩
  · obtain ⟨a, b⟩ := hone (c + 6) (r + 6) (by omega) (by omega)
    rw [hbu r hr, spr_cell hk h hc hr]
    have hcell := h.2.1 c r hc hr
    by_cases z : bb (61 * (r + 6) + (c + 6)) = 0 ∧ tchB bb (c + 6) (r + 6) = true
    · rw [a z]
      refine ⟨⟨fun _ => Or.inr z, fun _ => rfl⟩, ⟨fun g => absurd g (by decide), fun g => ?_⟩⟩
      have := hcell.2.mpr g
      rw [z.1] at this
      exact absurd this (by decide)
    · rw [b z]
      exact ⟨⟨fun g => Or.inl g, fun g => g.elim id (fun g => absurd g z)⟩, hcell.2⟩
  · rw [hbu r hr]
    exact spr_top hk h hc hr
theorem more_is {bu gd : RowL} : ∀ k, moreA bu gd k = true ↔ ∃ r, r < k ∧ sprR bu gd r ≠ bu r
  | 0 => ⟨fun h => (by cases h), fun ⟨r, h, _⟩ => by omega⟩
  | k + 1 => by
    rw [moreA]
    by_cases z : sprR bu gd k = bu k
    · rw [if_pos ((cmp_eq0 _ _).mpr z), more_is k]
      refine ⟨fun ⟨r, a, b⟩ => ⟨r, by omega, b⟩, fun ⟨r, a, b⟩ => ⟨r, ?_, b⟩⟩
      by_cases e : r = k
      · rw [e] at b; exact absurd z b
      · omega
    · rw [if_neg (fun g => z ((cmp_eq0 _ _).mp g))]
      exact ⟨fun _ => ⟨k, Nat.lt_succ_self k, z⟩, fun _ => rfl⟩
theorem more_eq {k w : Nat} (hk : k ≤ 23) (hw : w = 61) {bu gd : RowL} {bb : Row} (h : CR k bu gd bb) : moreA bu gd 49 = true ↔ (byA w (bb, false) w).2 = true := by
  rw [more_is, (pq_all hw w (by omega)).2]
  constructor
  · rintro ⟨r, hr, hne⟩
    have : ∃ i, i < 64 ∧ lb (sprR bu gd r) i ≠ lb (bu r) i := Classical.byContradiction fun q => hne (lb_ext fun i hi => Classical.byContradiction fun g => q ⟨i, hi, g⟩)
    obtain ⟨i, hi, g⟩ := this
    have hi49 : i < 49 := Nat.not_le.mp fun z => g (by rw [spr_top hk h z hr, h.2.2 i r hr z])
    have hs := spr_cell hk h hi49 hr
    have hcell := (h.2.1 i r hi49 hr).1
    have hb : lb (bu r) i = false := by
      cases z : lb (bu r) i
      · rfl
      · exfalso
        apply g
        rw [z]
        exact hs.mpr (Or.inl (hcell.mpr z))
    have hsp : lb (sprR bu gd r) i = true := by
      cases z : lb (sprR bu gd r) i
      · rw [z, hb] at g; exact absurd rfl g
      · rfl
    rcases hs.mp hsp with z | z
    · rw [hcell.mp z] at hb; cases hb
    · refine ⟨61 * (r + 6) + (i + 6), by omega, ?_⟩
      unfold caught
      rw [show (61 * (r + 6) + (i + 6)) % 61 = i + 6 by omega, show (61 * (r + 6) + (i + 6)) / 61 = r + 6 by omega]
      exact z
  · rintro ⟨j, hj, hc⟩
    have hX : j % 61 ≤ 60 := by omega
    have hY : j / 61 ≤ 60 := by omega
    have ej : 61 * (j / 61) + j % 61 = j := by omega
    have hd : dst (j % 61) (j / 61) ≤ 24 := by
      rcases (tch_is hX hY).mp hc.2 with g | g | g | g
      · have := (h.1 (j % 61 - 1) (j / 61) (by omega) hY).2 g.2
        unfold dst at *
        omega
      · have := (h.1 (j % 61 + 1) (j / 61) (by omega) hY).2 g.2
        unfold dst at *
        omega
      · have := (h.1 (j % 61) (j / 61 - 1) hX (by omega)).2 g.2
        unfold dst at *
        omega
      · have := (h.1 (j % 61) (j / 61 + 1) hX (by omega)).2 g.2
        unfold dst at *
        omega
    obtain ⟨c, hc6⟩ : ∃ c, j % 61 = c + 6 := ⟨j % 61 - 6, by unfold dst at hd; omega⟩
    obtain ⟨r, hr6⟩ : ∃ r, j / 61 = r + 6 := ⟨j / 61 - 6, by unfold dst at hd; omega⟩
    have hc49 : c < 49 := by unfold dst at hd; omega
    have hr49 : r < 49 := by unfold dst at hd; omega
    rw [hc6, hr6] at ej
    have hz : bb (61 * (r + 6) + (c + 6)) = 0 ∧ tchB bb (c + 6) (r + 6) = true := by
      rw [ej, ← hc6, ← hr6]
      exact hc
    refine ⟨r, hr49, fun e => ?_⟩
    have a := (spr_cell hk h hc49 hr49).mpr (Or.inr hz)
    rw [e] at a
    have := (h.2.1 c r hc49 hr49).1.mpr a
    rw [hz.1] at this
    exact absurd this (by decide)
/-! the board: the whole fire, and the answers -/
def BRl (k : Nat) (x : Bs) (q : RBt) : Prop := x.1 = q.2.2 ∧ (q.2.2 = -1 ∨ ∃ t, 1 ≤ t ∧ t ≤ 24 ∧ q.2.2 = nI t) ∧ x.2.1 = q.2.1 ∧ CR k x.2.2.1 x.2.2.2.2 q.1
theorem cr_mono {k k' : Nat} {bu gd : RowL} {bb : Row} (h : CR k bu gd bb) (hk : k ≤ k') : CR k' bu gd bb := ⟨fun X Y hX hY => ⟨(h.1 X Y hX hY).1, fun g => Nat.le_trans ((h.1 X Y hX hY).2 g) hk⟩, h.2⟩
section BOARD
variable {k w sq : Nat} {wa wx wy wt : Row} {x : Bs} {q q0 : RBt}
theorem brd_step (hk : k ≤ 23) (hw : w = 61) (hW : WL wa wx wy wt sq) (h : BRl k x q) (hx : x.1 = -1) : BRl (k + 1) (brnS wx wy wt sq (k + 1) x) (runS w wa sq (k + 1) q) := by
  obtain ⟨h1, h2, h3, h4⟩ := h
  obtain ⟨b1, b2⟩ := build_eq hk hW (nI (k + 1)) x.2.1 h4 sq (Nat.le_refl _)
  rw [h3] at b1 b2
  have hpg : pgB wx wy wt sq (nI (k + 1)) x = pgA x.2.2.1 wx wy wt (nI (k + 1)) (q.2.1, x.2.2.2.2) sq := by
    unfold pgB
    rw [h3]
  unfold brnS runS
  rw [hpg]
  generalize pgA x.2.2.1 wx wy wt (nI (k + 1)) (q.2.1, x.2.2.2.2) sq = g at *
  generalize bldA wa (nI (k + 1)) (q.1, q.2.1) sq = b at *
  have hbu : ∀ r, r < 49 → va_cpy (aftA x.2.2.1 g.2 x.2.2.2.1 49) x.2.2.1 0 0 49 r = sprR x.2.2.1 g.2 r := fun r hr => by
    rw [pk_cpy_in (Nat.zero_le _) (by omega), Nat.zero_add, Nat.sub_zero]
    unfold aftA
    rw [if_pos hr]
  have hcr := cr_next hk hw b2 hbu
  have hm := more_eq hk hw b2
  by_cases z : moreA x.2.2.1 g.2 49 = true
  · rw [if_pos z, if_pos (hm.mp z)]
    exact ⟨hx, Or.inl rfl, b1, hcr⟩
  · rw [if_neg z, if_neg (fun y => z (hm.mpr y))]
    exact ⟨rfl, Or.inr ⟨k + 1, by omega, by omega, rfl⟩, b1, hcr⟩
theorem brd_all (hw : w = 61) (hW : WL wa wx wy wt sq) : ∀ (f k : Nat) (x : Bs), k + f ≤ 24 → BRl k x (runA w wa sq q0 k) → BRl 24 (brnL wx wy wt sq f (k + 1) x) (runA w wa sq q0 (k + f))
  | 0, k, x, hk, h => ⟨h.1, h.2.1, h.2.2.1, cr_mono h.2.2.2 (by omega)⟩
  | f + 1, k, x, hk, h => by
    rw [brnL]
    by_cases z : x.1 = -1
    · rw [if_pos z, show k + (f + 1) = (k + 1) + f by omega]
      refine brd_all hw hW f (k + 1) _ (by omega) ?_
      have hs : (runA w wa sq q0 k).2.2 < 0 := by rw [← h.1, z]; decide
      rw [runA, if_pos hs]
      exact brd_step (by omega) hw hW h z
    · rw [if_neg z]
      have hs : ¬ (runA w wa sq q0 k).2.2 < 0 := by
        rcases h.2.1 with g | ⟨t, t1, t2, g⟩
        · exact absurd (h.1.trans g) z
        · rw [g]; exact nI_pos (by omega)
      rw [runA_stop hs]
      exact ⟨h.1, h.2.1, h.2.2.1, cr_mono h.2.2.2 (by omega)⟩
theorem brd_start (bu af gd : RowL) (bb : Row) : BRl 0 (brn0 bu af gd) (run0 bb) := by
  refine ⟨rfl, Or.inl rfl, rfl, ⟨fun X Y hX hY => ?_, fun c r hc hr => ?_, fun c r hr hc => ?_⟩⟩
  · show (upd (fillF bb 0 3721) 1860 1 (61 * Y + X) = 0 ∨ upd (fillF bb 0 3721) 1860 1 (61 * Y + X) = 1 ∨ upd (fillF bb 0 3721) 1860 1 (61 * Y + X) = 2) ∧ (upd (fillF bb 0 3721) 1860 1 (61 * Y + X) = 1 → dst X Y ≤ 0)
    by_cases z : 61 * Y + X = 1860
    · rw [z, pk_us]
      refine ⟨Or.inr (Or.inl rfl), fun _ => ?_⟩
      unfold dst
      omega
    · rw [pk_un z]
      unfold fillF
      rw [if_pos (by omega)]
      exact ⟨Or.inl rfl, fun g => absurd g (by decide)⟩
  · show (upd (fillF bb 0 3721) 1860 1 (61 * (r + 6) + (c + 6)) = 1 ↔ lb (vp_updL (fillF bu 0 49) 24 16777216 r) c = true) ∧ (upd (fillF bb 0 3721) 1860 1 (61 * (r + 6) + (c + 6)) = 2 ↔ lb (fillF gd 0 49 r) c = true)
    have e2 : lb (fillF gd 0 49 r) c = false := by
      unfold fillF
      rw [if_pos hr, lb_0]
    rw [e2]
    by_cases z : 61 * (r + 6) + (c + 6) = 1860
    · have er : r = 24 := by omega
      have ec : c = 24 := by omega
      rw [z, pk_us, er, uL_s, ec, lb_mid 24 (by omega)]
      exact ⟨⟨fun _ => rfl, fun _ => rfl⟩, ⟨fun g => absurd g (by decide), fun g => (by cases g)⟩⟩
    · rw [pk_un z]
      have ef : fillF bb 0 3721 (61 * (r + 6) + (c + 6)) = 0 := by
        unfold fillF
        rw [if_pos (by omega)]
      rw [ef]
      refine ⟨⟨fun g => absurd g (by decide), fun g => ?_⟩, ⟨fun g => absurd g (by decide), fun g => (by cases g)⟩⟩
      exfalso
      by_cases er : r = 24
      · rw [er, uL_s, lb_mid c (by omega)] at g
        have := of_decide_eq_true g
        omega
      · rw [uL_n er] at g
        unfold fillF at g
        rw [if_pos hr, lb_0] at g
        cases g
  · show lb (vp_updL (fillF bu 0 49) 24 16777216 r) c = false
    by_cases er : r = 24
    · rw [er, uL_s]
      by_cases h64 : c < 64
      · rw [lb_mid c h64, decide_eq_false (by omega)]
      · exact lb_big (by omega)
    · rw [uL_n er]
      unfold fillF
      rw [if_pos hr, lb_0]
theorem brd_eq (hw : w = 61) (hW : WL wa wx wy wt sq) (bu af gd : RowL) (bb : Row) {y : Bs} {z : RBt} (hy : y = brnL wx wy wt sq 24 1 (brn0 bu af gd)) (hz : z = runA w wa sq (run0 bb) 24) : BRl 24 y z := by
  have h := brd_all (q0 := run0 bb) hw hW 24 0 (brn0 bu af gd) (by omega) (brd_start bu af gd bb)
  rw [hy, hz]
  exact h
end BOARD
/-! counting what burns -/
theorem ct_still {bb : Row} {Y : Nat} {q : RBc} {a : Nat} : ∀ j, (∀ X, a ≤ X → X < a + j → ¬ bb (61 * Y + X) = 1) → ctX bb Y q (a + j) = ctX bb Y q a
  | 0, _ => rfl
  | j + 1, h => by
    show ctS bb (a + j) Y (ctX bb Y q (a + j)) = _
    rw [ct_still j (fun X h1 h2 => h X h1 (by omega))]
    unfold ctS
    rw [if_neg (h (a + j) (by omega) (by omega)), Int32.add_zero]
theorem abs_size : ∀ c, c < 49 → sizeI (crd (c + 6)) = absI (nI c - 24) := by decide +kernel
theorem ct_row {bu gd : RowL} {bb : Row} (h : CR 24 bu gd bb) {r : Nat} (hr : r < 49) (q : RBc) : ∀ c, c ≤ 49 → ctX bb (r + 6) q (6 + c) = (q.1 + nI (cntL (bu r).toBitVec.toNat c), rchR bu r q.2 c)
  | 0, _ => by
    have e : ctX bb (r + 6) q (0 + 6) = ctX bb (r + 6) q 0 := ct_still 6 (fun X _ h2 g => by
      have := (h.1 X (r + 6) (by omega) (by omega)).2 g
      unfold dst at this
      omega)
    show ctX bb (r + 6) q (0 + 6) = (q.1 + 0, q.2)
    rw [e, Int32.add_zero]
    rfl
  | c + 1, hc => by
    show ctS bb (6 + c) (r + 6) (ctX bb (r + 6) q (6 + c)) = (q.1 + nI (cntL (bu r).toBitVec.toNat c + if (bu r).toBitVec.toNat.testBit c = true then 1 else 0), if lg_cmp ((bu r >>> ((nI c).toInt64 &&& 63)) &&& 1) 0 = 0 then rchR bu r q.2 c else maxI (rchR bu r q.2 c) (absI (nI r - 24) + absI (nI c - 24)))
    rw [ct_row h hr q c (by omega)]
    have hcell := (h.2.1 c r (by omega) hr).1
    have hbit : (bu r).toBitVec.toNat.testBit c = lb (bu r) c := BitVec.testBit_toNat _
    unfold ctS
    rw [Nat.add_comm 6 c, hbit]
    by_cases z : lb (bu r) c = true
    · rw [if_pos (hcell.mpr z), if_pos z, if_neg (show ¬ lg_cmp ((bu r >>> ((nI c).toInt64 &&& 63)) &&& 1) 0 = 0 from fun g => by rw [(lb_ssh _ (by omega)).mp ((cmp_eq0 _ _).mp g)] at z; cases z), abs_size c (by omega), abs_size r hr, Int32.add_comm (absI (nI c - 24))]
      show (q.1 + nI _ + 1, _) = (q.1 + nI (_ + 1), maxI _ _)
      rw [Int32.add_assoc, nI_1]
      rfl
    · have z0 : lb (bu r) c = false := by
        cases g : lb (bu r) c
        · rfl
        · exact absurd g z
      rw [if_neg (fun g => z (hcell.mp g)), if_neg z, if_pos ((cmp_eq0 _ _).mpr ((lb_ssh _ (by omega)).mpr z0)), Nat.add_zero, Int32.add_zero]
theorem cnt_top {x : Int64} (h : ∀ c, 49 ≤ c → lb x c = false) : ∀ j, cntL x.toBitVec.toNat (49 + j) = cntL x.toBitVec.toNat 49
  | 0 => rfl
  | j + 1 => by
    show cntL x.toBitVec.toNat (49 + j) + (if x.toBitVec.toNat.testBit (49 + j) = true then 1 else 0) = _
    have hbit : x.toBitVec.toNat.testBit (49 + j) = lb x (49 + j) := BitVec.testBit_toNat _
    rw [cnt_top h j, hbit, h (49 + j) (by omega), if_neg Bool.false_ne_true, Nat.add_zero]
theorem ct_line {bu gd : RowL} {bb : Row} (h : CR 24 bu gd bb) {w : Nat} (hw : w = 61) {r : Nat} (hr : r < 49) (q : RBc) : ctX bb (r + 6) q w = (q.1 + popL (bu r), rchR bu r q.2 49) := by
  have e : ctX bb (r + 6) q (55 + 6) = ctX bb (r + 6) q 55 := ct_still 6 (fun X h1 h2 g => by
    have := (h.1 X (r + 6) (by omega) (by omega)).2 g
    unfold dst at this
    omega)
  rw [show w = 55 + 6 by omega, e, show (55 : Nat) = 6 + 49 by omega, ct_row h hr q 49 (Nat.le_refl _), popL_eq, ← cnt_top (fun c hc => h.2.2 c r hr hc) 15]
theorem ct_empty {bu gd : RowL} {bb : Row} (h : CR 24 bu gd bb) {w Y : Nat} (hw : w = 61) (hY : Y ≤ 60) (hY2 : Y < 6 ∨ 55 ≤ Y) (q : RBc) : ctX bb Y q w = q := by
  have e : ctX bb Y q (0 + w) = ctX bb Y q 0 := ct_still w (fun X _ h2 g => by
    have := (h.1 X Y (by omega) hY).2 g
    unfold dst at this
    omega)
  rw [Nat.zero_add] at e
  exact e
theorem cty_low {bu gd : RowL} {bb : Row} (h : CR 24 bu gd bb) {w : Nat} (hw : w = 61) : ∀ Y, Y ≤ 6 → ctY w bb Y = (0, 0)
  | 0, _ => rfl
  | Y + 1, hY => by
    show ctX bb Y (ctY w bb Y) w = _
    rw [cty_low h hw Y (by omega), ct_empty h hw (by omega) (by omega)]
theorem cty_mid {bu gd : RowL} {bb : Row} (h : CR 24 bu gd bb) {w : Nat} (hw : w = 61) : ∀ r, r ≤ 49 → ctY w bb (r + 6) = (brtA bu r, rchA bu r)
  | 0, _ => by
    rw [Nat.zero_add, cty_low h hw 6 (Nat.le_refl _)]
    rfl
  | r + 1, hr => by
    rw [show r + 1 + 6 = (r + 6) + 1 by omega]
    show ctX bb (r + 6) (ctY w bb (r + 6)) w = _
    rw [cty_mid h hw r (by omega), ct_line h hw (by omega)]
    rfl
theorem cty_all {bu gd : RowL} {bb : Row} (h : CR 24 bu gd bb) {w : Nat} (hw : w = 61) : ctY w bb w = (brtA bu 49, rchA bu 49) := by
  have : ∀ j, j ≤ 6 → ctY w bb (55 + j) = ctY w bb 55 := fun j => by
    induction j with
    | zero => intro _; rfl
    | succ j ih =>
      intro hj
      show ctX bb (55 + j) (ctY w bb (55 + j)) w = _
      rw [ct_empty h hw (by omega) (by omega), ih (by omega)]
  have e := this 6 (Nat.le_refl _)
  have e2 := cty_mid h hw 49 (Nat.le_refl _)
  rw [show (49 + 6 : Nat) = 55 from rfl] at e2
  rw [show ctY w bb w = ctY w bb (55 + 6) by rw [show (55 + 6 : Nat) = w by omega], e, e2]
theorem board_ans {y : Bs} {z : RBt} {w : Nat} (hw : w = 61) (h : BRl 24 y z) (what : Int32) : boardO y what = boardR w z what := by
  obtain ⟨h1, h2, h3, h4⟩ := h
  unfold boardO boardR
  rw [cty_all h4 hw, h1, h3]
/-! the wall -/
theorem cntA_eq {wt wa : Row} {t : Int32} {sq : Nat} (h : ∀ k, k < sq → wt k = wa (3 * k + 2)) : ∀ k, k ≤ sq → cntA wt t k = cntM wa t k
  | 0, _ => rfl
  | k + 1, hk => by
    show (if wt k = t then cntA wt t k + 1 else cntA wt t k) = (if wa (3 * k + 2) = t then cntM wa t k + 1 else cntM wa t k + 0)
    rw [cntA_eq h k (by omega), h k (by omega), Int32.add_zero]
theorem need_eq {wt wa : Row} {sq : Nat} (h : ∀ k, k < sq → wt k = wa (3 * k + 2)) : ∀ t, needA wt sq t = needM wa sq t
  | 0 => rfl
  | t + 1 => by
    show (if needA wt sq t < cntA wt (nI (t + 1)) sq then cntA wt (nI (t + 1)) sq else needA wt sq t) = (if needM wa sq t < cntM wa (nI (t + 1)) sq then cntM wa (nI (t + 1)) sq else needM wa sq t)
    rw [need_eq h t, cntA_eq h sq (Nat.le_refl _)]
theorem isW_eq {wa wx wy : Row} {x y : Int32} {sq : Nat} (h : ∀ k, k < sq → wx k = wa (3 * k) ∧ wy k = wa (3 * k + 1)) : ∀ k, k ≤ sq → isWB wx wy x y k = isWM wa x y k
  | 0, _ => rfl
  | k + 1, hk => by
    show (isWB wx wy x y k || (decide (wx k = x) && decide (wy k = y))) = (isWM wa x y k || (decide (wa (3 * k) = x) && decide (wa (3 * k + 1) = y)))
    rw [isW_eq h k (by omega), (h k (by omega)).1, (h k (by omega)).2]
theorem wall_ans {wa wx wy : Row} {x y t : Int32} {sq : Nat} (hsq : sq ≤ 40) (h : ∀ k, k < sq → wx k = wa (3 * k) ∧ wy k = wa (3 * k + 1)) : wallO wx wy sq x y t = wallR wa sq x y t ∧ wallB wx wy sq x y t = wallC wa sq x y t := by
  have e := isW_eq (x := x) (y := y) h sq (Nat.le_refl _)
  have e2 : (if sq < 40 then nI (sq + 1) else (-1004 : Int32)) = if sq = 40 then -1004 else nI (sq + 1) := by
    by_cases z : sq = 40
    · rw [if_pos z, if_neg (by omega)]
    · rw [if_neg z, if_pos (by omega)]
  refine ⟨?_, ?_⟩
  · unfold wallO wallR
    rw [e, e2]
  · unfold wallB wallC
    rw [e]
    exact decide_eq_decide.mpr ⟨fun ⟨a1, a2, a3, a4, a5, a6⟩ => ⟨a1, a2, a3, a4, a5, by omega⟩, fun ⟨a1, a2, a3, a4, a5, a6⟩ => ⟨a1, a2, a3, a4, a5, by omega⟩⟩
/-! answers of the search: best, take, least, share, worst, mean -/
def S3 (x y : Ss) : Prop := x.1 = y.1 ∧ x.2.1 = y.2.1 ∧ x.2.2.2.1 = y.2.2.2.1
section LEFT
variable {n : Int32} {wo pr ne ow ow2 : Row} {ke bd : Int32}
theorem judge_3 {t : Nat} {bu gu : Int32} {x y : Ss} (h : S3 x y) : S3 (judgeF n wo ne t bu gu x) (judgeF n wo ne t bu gu y) := by
  obtain ⟨h1, h2, h3⟩ := h
  unfold judgeF
  rw [h2]
  split
  · exact ⟨h1, rfl, h3⟩
  · exact ⟨h1, h2, h3⟩
theorem look_3 {rc rc2 : Nat → Int32 → Int32 → Int32 → Ss → Ss} (ho : ∀ t, t < 8 → ow t = ow2 t) (hr : ∀ t bu gu m x y, S3 x y → S3 (rc t bu gu m x) (rc2 t bu gu m y)) {t : Nat} {bu gu set left : Int32} {x y : Ss} (h : S3 x y) : S3 (lookF rc n wo ne ow ke bd t bu gu set left x) (lookF rc2 n wo ne ow2 ke bd t bu gu set left y) := by
  obtain ⟨h1, h2, h3⟩ := h
  have hm : moneyI ow ke (t + 1) left = moneyI ow2 ke (t + 1) left := by
    unfold moneyI
    rw [ho _ (by omega)]
  unfold lookF
  rw [hm, h1]
  split
  · split
    · exact hr _ _ _ _ _ _ ⟨rfl, h2, h3⟩
    · exact judge_3 ⟨rfl, h2, h3⟩
  · exact ⟨rfl, h2, rfl⟩
theorem seekL_3 {lk lk2 : Int32 → Int32 → Ss → Ss} {free money : Int32} (hr : ∀ set left x y, S3 x y → S3 (lk set left x) (lk2 set left y)) : ∀ (F : Nat) (set : Int32) (x y : Ss), S3 x y → S3 (seekL lk pr free money F set x) (seekL lk2 pr free money F set y)
  | 0, _, _, _, h => h
  | F + 1, set, x, y, h => by
    rw [seekL, seekL, h.2.2]
    split
    · exact h
    · split
      · split
        · exact h
        · exact seekL_3 hr F _ _ _ h
      · split
        · exact hr _ _ _ _ h
        · exact seekL_3 hr F _ _ _ (hr _ _ _ _ h)
theorem seekF_3 (ho : ∀ t, t < 8 → ow t = ow2 t) : ∀ (d t : Nat) (bu gu m : Int32) (x y : Ss), S3 x y → S3 (seekF n wo pr ne ow ke bd d t bu gu m x) (seekF n wo pr ne ow2 ke bd d t bu gu m y)
  | 0, _, _, _, _, _, _, h => h
  | d + 1, t, bu, gu, m, x, y, h => by
    rw [seekF, seekF]
    generalize (1024 : Nat) = F
    exact seekL_3 (fun _ _ _ _ h2 => look_3 ho (fun t bu gu m x y h3 => seekF_3 ho d t bu gu m x y h3) h2) F 0 x y h
end LEFT
/-- what a search saves, whatever was left over -/
def savL (n : Int32) (wo pr ne ow : Row) (ke bd : Int32) (d : Nat) (fire : Int32) : Int32 := (seekF n wo pr ne ow ke bd (d + 1) 1 fire 0 (moneyI ow ke 1 0) (0, -1, 0, false, fun _ => 0, fun _ => 0)).2.1
theorem savL_any {n : Int32} {wo pr ne ow ow2 : Row} {ke bd : Int32} {d : Nat} (ho : ∀ t, t < 8 → ow2 t = ow t) (fire ov : Int32) (way kept : Row) : (seekF n wo pr ne ow2 ke bd (d + 1) 1 fire 0 (moneyI ow2 ke 1 0) (0, -1, ov, false, way, kept)).2.1 = savL n wo pr ne ow ke bd d fire := by
  have hm : moneyI ow2 ke 1 0 = moneyI ow ke 1 0 := by
    unfold moneyI
    rw [ho _ (by omega)]
  rw [hm]
  have h := seekF_3 (n := n) (wo := wo) (pr := pr) (ne := ne) (ke := ke) (bd := bd) ho (d + 1) 1 fire 0 (moneyI ow ke 1 0) ((0, -1, ov, false, way, kept) : Ss) ((0, -1, 0, false, fun _ => 0, fun _ => 0) : Ss) ⟨rfl, rfl, rfl⟩
  unfold savL
  exact h.2.1
theorem cpy8 (ow ov : Row) : ∀ t, t < 8 → va_cpy ow ov 0 0 8 t = ow t := fun t ht => by rw [pk_cpy_in (Nat.zero_le _) (by omega), Nat.zero_add, Nat.sub_zero]
/-- what both sides know of the net and the purses -/
def SNet (n b : Nat) (pr pr' ne ne' wo wo' : Row) (bd : Int32) (p q : Nat → Nat) : Prop :=
  1 ≤ n ∧ n ≤ 10 ∧ (∀ k, k < n → pr k = pr' k) ∧ (∀ k, k < n → ne k = ne' k) ∧ (∀ k, k < n → wo k = wo' k) ∧ (∀ k, k < n → below n (ne' k)) ∧ (∀ k, k < n → pr' k = nI (p k)) ∧ (∀ k, k < n → p k ≤ 9) ∧ (∀ k, k < n → wo' k = nI (q k)) ∧ (∀ k, k < n → q k ≤ 9) ∧ bd = nI b ∧ 50 ≤ b ∧ b ≤ 1000
def SPur (ow ow' : Row) (ke : Int32) (ke' : Bool) (o : Nat → Nat) : Prop := (∀ t, t < 8 → ow t = ow' (t + 1)) ∧ (∀ t, 1 ≤ t → t ≤ 8 → ow' t = nI (o t) ∧ o t ≤ 20) ∧ (ke = 1 ↔ ke' = true)
section ANS
variable {n b : Nat} {pr pr' ne ne' wo wo' ow ow' : Row} {ke : Int32} {ke' : Bool} {bd : Int32} {p q o : Nat → Nat} {d : Nat}
theorem SNet.hyp (N : SNet n b pr pr' ne ne' wo wo' bd p q) (P : SPur ow ow' ke ke' o) (pz : Row) : SHyp n b pr pr' ne ne' wo wo' ow ow' ke ke' bd (fillP n pr' pz (allN n + 1)) p q o := by
  obtain ⟨-, hn, hpr, hne, hwo, hbl, hp, hp9, hq, hq9, hbd, hb1, hb2⟩ := N
  obtain ⟨ho, hoN, hke⟩ := P
  refine ⟨hn, hpr, hne, hwo, hbl, hp, hp9, hq, hq9, ho, hoN, hke, hbd, hb1, hb2, fun j hj => ?_⟩
  unfold fillP
  rw [if_pos (by omega)]
theorem SPur.cpy (P : SPur ow ow' ke ke' o) (ov : Row) : SPur (va_cpy ow ov 0 0 8) ow' ke ke' o := ⟨fun t ht => (cpy8 ow ov t ht).trans (P.1 t ht), P.2.1, P.2.2⟩
/-- the reference's search comes to what the class's has -/
theorem seek_all (N : SNet n b pr pr' ne ne' wo wo' bd p q) (P : SPur ow ow' ke ke' o) (hd : 1 + d = 8) {fire : Int32} (hf : below n fire) {ov : Int32} {way kept : Row} {y : Ss} (hy : y = seekF (nI n) wo pr ne ow ke bd (d + 1) 1 fire 0 (moneyI ow ke 1 0) (0, -1, ov, false, way, kept)) :
    SeekAll n bd ow' ke' pr' ne' wo' fire y.2.1 y.1 y.2.2.2.1 y.2.2.1 (fun t => y.2.2.2.2.2 (t - 1)) ∧ (∃ Q, Q ≤ 90 ∧ y.2.1 = nI Q) ∧ ∀ i, i < 8 → 0 ≤ y.2.2.2.2.2 i := by
  have key := fun (pz tr fa ga la bz : Row) => seek_top (N.hyp P pz) hd hf ov way kept tr fa ga la bz
  rw [← hy] at key
  refine ⟨fun pz tr fa ga la bz => ?_, ?_⟩
  · obtain ⟨Y, h1, ⟨-, r2, r3, r4, r5⟩, h3⟩ := key pz tr fa ga la bz
    rcases r5 with r5 | ⟨-, r6, r7⟩
    · exact absurd r5 h3
    · refine ⟨Y, h1, r4, r2, r3, r6, fun t h1 h8 => ?_⟩
      have := (r7 (t - 1) (by omega)).1
      rw [show t - 1 + 1 = t by omega] at this
      exact this
  · obtain ⟨Y, h1, ⟨-, r2, r3, r4, r5⟩, h3⟩ := key (fun _ => 0) (fun _ => 0) (fun _ => 0) (fun _ => 0) (fun _ => 0) (fun _ => 0)
    rcases r5 with r5 | ⟨r5, r6, r7⟩
    · exact absurd r5 h3
    · exact ⟨r5, fun i hi => (r7 i hi).2⟩
theorem best_ans {y : Ss} {fire what : Int32} : bestO (nI n) y fire what = bestR n y.2.1 y.1 y.2.2.2.1 y.2.2.1 (fun t => y.2.2.2.2.2 (t - 1)) fire what := by
  unfold bestO bestR
  by_cases hf : 1 ≤ fire ∧ fire ≤ allI (nI n)
  · rw [if_pos hf, if_pos hf]
    by_cases hw : 0 ≤ what ∧ what ≤ 11
    · rw [if_pos hw, if_pos hw]
      by_cases h0 : what = 0
      · rw [if_pos h0, if_pos h0]
      · rw [if_neg h0, if_neg h0]
        by_cases h1 : what = 1
        · rw [if_pos h1, if_pos h1]
        · rw [if_neg h1, if_neg h1]
          by_cases h2 : what = 2
          · rw [if_pos h2, if_pos h2]
          · rw [if_neg h2, if_neg h2]
            by_cases h3 : what = 3
            · rw [if_pos h3, if_pos h3]
            · rw [if_neg h3, if_neg h3]
              obtain ⟨t, ht, e1, e2⟩ := what_ix hw h0 h1 h2 h3
              rw [e1, e2, nI_clamp (by omega)]
    · rw [if_neg hw, if_neg hw]
  · rw [if_neg hf, if_neg hf]
theorem least_run {wl : Nat → Int32} {wt : Int32} : ∀ (f v : Nat), v + f ≤ 21 → leastA wl wt v = -1 → leaF wl wt f v = leastA wl wt (v + f)
  | 0, v, _, h => h.symm
  | f + 1, v, hv, h => by
    have e : leastA wl wt (v + 1) = if wt ≤ wl v then nI v else -1 := by
      show (if leastA wl wt v < 0 then (if wt ≤ wl v then nI v else -1) else leastA wl wt v) = _
      rw [h, if_pos (by decide)]
    rw [leaF, show v + (f + 1) = (v + 1) + f by omega]
    by_cases z : wl v < wt
    · rw [if_pos z]
      exact least_run f (v + 1) (by omega) (by rw [e, if_neg (i_nle z)])
    · rw [if_neg z]
      have e2 : leastA wl wt (v + 1) = nI v := by rw [e, if_pos (i_lt z)]
      rw [leastA_stop (by rw [e2]; exact nI_pos (by omega)), e2]
theorem leastA_congr {R R2 : Nat → Int32} {wt : Int32} : ∀ k, (∀ v, v < k → R v = R2 v) → leastA R wt k = leastA R2 wt k
  | 0, _ => rfl
  | k + 1, h => by
    show (if leastA R wt k < 0 then (if wt ≤ R k then nI k else -1) else leastA R wt k) = (if leastA R2 wt k < 0 then (if wt ≤ R2 k then nI k else -1) else leastA R2 wt k)
    rw [leastA_congr k (fun v hv => h v (by omega)), h k (by omega)]
def evL (n : Int32) (wo pr ne : Row) (ke bd : Int32) (d : Nat) (fire : Int32) (v : Nat) : Int32 := savL n wo pr ne (fun _ => nI v) ke bd d fire
theorem ev_any {n : Int32} {wo pr ne : Row} {ke bd : Int32} {d : Nat} (fire : Int32) (v : Nat) (q : Ss) (oo : Row) : (seekF n wo pr ne (fillF oo (nI v) 8) ke bd (d + 1) 1 fire 0 (moneyI (fillF oo (nI v) 8) ke 1 0) (0, -1, q.2.2.1, false, q.2.2.2.2.1, q.2.2.2.2.2)).2.1 = evL n wo pr ne ke bd d fire v := savL_any (fun t ht => if_pos ht) fire _ _ _
theorem least_all (N : SNet n b pr pr' ne ne' wo wo' bd p q) (hke : ke = 1 ↔ ke' = true) (hd : 1 + d = 8) {fire : Int32} (hf : below n fire) : LeastAll n bd ow' ke' pr' ne' wo' fire (evL (nI n) wo pr ne ke bd d fire) := fun v hv => by
  have P : SPur (fun _ => nI v) (evenF v ow' 8) ke ke' (fun _ => v) := ⟨fun t ht => by unfold evenF; rw [if_pos (by omega)], fun t h1 h8 => ⟨by unfold evenF; rw [if_pos ⟨h1, h8⟩], hv⟩, hke⟩
  exact ⟨_, _, _, _, (seek_all N P hd hf (ov := 0) (way := fun _ => 0) (kept := fun _ => 0) rfl).1⟩
theorem least_ans {wl : Nat → Int32} {fire wt : Int32} : leastO (nI n) wl fire wt = leastR n wl fire wt := by
  unfold leastO leastR
  rw [least_run 21 0 (by omega) rfl]
/-- saved by a rule -/
theorem part_nat2 (N : SNet n b pr pr' ne ne' wo wo' bd p q) (f : Int32) : ∃ Q, Q ≤ 90 ∧ savedI (nI n) wo f = nI Q ∧ savedM n wo' f = nI Q := by
  obtain ⟨-, hn, -, -, hwo, -, -, -, hq, hq9, -⟩ := N
  obtain ⟨Q, h1, h2⟩ := saved_nat hn hq hq9 f
  exact ⟨Q, h1, by rw [saved_eq hn hwo, h2], h2⟩
theorem share_ans {P B : Nat} (hP : P ≤ 90) (hB : B ≤ 90) {wo' : Row} {y : Nat × Ps} (hy : savedM n wo' y.2.1 = nI P) (ru fire what : Int32) : (gcdL 30 (upS n wo' y (nI B)) (loS (nI B)) = some (nI (Nat.gcd (if B = 0 then 1 else P) (if B = 0 then 1 else B))) ∧ nI (Nat.gcd (if B = 0 then 1 else P) (if B = 0 then 1 else B)) ≠ 0) ∧
    shareO (nI n) (nI P) (nI B) ru fire what = shareR n (upS n wo' y (nI B)) (loS (nI B)) (nI (Nat.gcd (if B = 0 then 1 else P) (if B = 0 then 1 else B))) ru fire what := by
  have e1 : upS n wo' y (nI B) = nI (if B = 0 then 1 else P) := by
    unfold upS
    by_cases z : B = 0
    · rw [if_pos z, if_pos (by rw [z]; rfl)]; rfl
    · rw [if_neg z, if_neg (nI_ne0 (by omega) (by omega)), hy]
  have e2 : loS (nI B) = nI (if B = 0 then 1 else B) := by
    unfold loS
    by_cases z : B = 0
    · rw [if_pos z, if_pos (by rw [z]; rfl)]; rfl
    · rw [if_neg z, if_neg (nI_ne0 (by omega) (by omega))]
  rw [e1, e2]
  obtain ⟨f1, f2, f3⟩ := frac_part (u := if B = 0 then 1 else P) (l := if B = 0 then 1 else B) (by split <;> omega) (by split <;> omega) (by split <;> omega) what
  refine ⟨⟨f2, f3⟩, ?_⟩
  unfold shareO shareR
  by_cases hr : 0 ≤ ru ∧ ru ≤ 2
  · rw [if_pos hr, if_pos hr]
    by_cases hf : 1 ≤ fire ∧ fire ≤ allI (nI n)
    · rw [if_pos hf, if_pos hf]
      by_cases hw : 0 ≤ what ∧ what ≤ 1
      · rw [if_pos hw, if_pos hw, ← f1]
        by_cases z : B = 0
        · rw [if_neg (by rw [z]; decide), if_pos z, if_pos z]
          have h1 : (nI 1).toInt64 = lN 1 := nI_l (by omega)
          rw [h1, frac_nat (by omega) (by omega) (by omega), lN_i]
          split <;> rfl
        · rw [if_pos (show (0 : Int32) < nI B from (nI_ltI (a := 0) (b := B) (by omega) (by omega)).mpr (by omega)), if_neg z, if_neg z]
      · rw [if_neg hw, if_neg hw]
    · rw [if_neg hf, if_neg hf]
  · rw [if_neg hr, if_neg hr]
theorem worst_run {pa wl U B : Nat → Int32} {m : Nat} (hm : m ≤ 10) (h : ∀ k, k < m → ∃ P B0 : Nat, P ≤ 90 ∧ B0 ≤ 90 ∧ pa k = nI P ∧ wl k = nI B0 ∧ U k = (if B0 = 0 then 1 else nI P) ∧ B k = (if B0 = 0 then 1 else nI B0)) : ∀ k, k ≤ m → 1 ≤ k → worA pa wl k = worstA U B k ∧ ¬ (worstA U B k).1 < 0
  | 0, _, h1 => by omega
  | k + 1, hk, _ => by
    obtain ⟨P, B0, hP, hB, e1, e2, e3, e4⟩ := h k (by omega)
    show worS pa wl k (worA pa wl k) = (if (worstA U B k).1 < 0 ∨ U k * (worstA U B k).2.2 < (worstA U B k).2.1 * B k then (nI k, U k, B k) else worstA U B k) ∧ ¬ (if (worstA U B k).1 < 0 ∨ U k * (worstA U B k).2.2 < (worstA U B k).2.1 * B k then (nI k, U k, B k) else worstA U B k).1 < 0
    have hpos : ¬ nI k < 0 := nI_pos (by omega)
    unfold worS
    rw [e1, e2, e3, e4]
    by_cases hk0 : k = 0
    · subst hk0
      have hs : (worstA U B 0).1 < 0 := show (-1 : Int32) < 0 by decide
      rw [if_pos (Or.inl hs)]
      refine ⟨?_, hpos⟩
      by_cases z : B0 = 0
      · rw [if_neg (by rw [z]; decide), if_pos (show nI 0 = 0 from rfl), if_pos z, if_pos z]
      · rw [if_pos (show (0 : Int32) < nI B0 from (nI_ltI (a := 0) (b := B0) (by omega) (by omega)).mpr (by omega)), if_pos (show nI 0 = 0 from rfl), if_neg z, if_neg z]
    · obtain ⟨i1, i2⟩ := worst_run hm h k (by omega) (by omega)
      rw [i1]
      have hkn : ¬ nI k = 0 := nI_ne0 (by omega) (by omega)
      by_cases z : B0 = 0
      · rw [if_neg (by rw [z]; decide), if_neg hkn, if_pos z, if_pos z]
        by_cases w : 1 * (worstA U B k).2.2 < (worstA U B k).2.1 * 1
        · rw [if_pos w, if_pos (Or.inr w)]
          exact ⟨rfl, hpos⟩
        · rw [if_neg w, if_neg (fun g => g.elim i2 w)]
          exact ⟨rfl, i2⟩
      · rw [if_pos (show (0 : Int32) < nI B0 from (nI_ltI (a := 0) (b := B0) (by omega) (by omega)).mpr (by omega)), if_neg hkn, if_neg z, if_neg z]
        by_cases w : nI P * (worstA U B k).2.2 < (worstA U B k).2.1 * nI B0
        · rw [if_pos w, if_pos (Or.inr w)]
          exact ⟨rfl, hpos⟩
        · rw [if_neg w, if_neg (fun g => g.elim i2 w)]
          exact ⟨rfl, i2⟩
theorem mean_sum {pa G : Nat → Int32} {g : Nat → Nat} {n : Nat} (hn : n ≤ 10) (hg : ∀ k, k < n → pa k = nI (g k) ∧ G k = nI (g k) ∧ g k ≤ 90) {st : Int32} (hst : below n st) : ∃ U, U ≤ 900 ∧ meaA pa st 10 = nI U ∧ meanA G st n = nI U := by
  have h1 : ∀ k, k ≤ n → ∃ U, U ≤ 90 * k ∧ meaA pa st k = nI U ∧ meanA G st k = nI U := by
    intro k
    induction k with
    | zero => intro _; exact ⟨0, Nat.le_refl _, rfl, rfl⟩
    | succ k ih =>
      intro hk
      obtain ⟨U, u1, u2, u3⟩ := ih (by omega)
      obtain ⟨g1, g2, g3⟩ := hg k (by omega)
      show ∃ W, W ≤ 90 * (k + 1) ∧ (if ¬ bt st (nI k) = 0 then meaA pa st k + pa k else meaA pa st k) = nI W ∧ (if bt st (nI k) = 1 then meanA G st k + G k else meanA G st k) = nI W
      by_cases q : tb st k = true
      · rw [if_pos ((bt_n0 (by omega)).mpr q), if_pos ((bt_1 (by omega)).mpr q), u2, u3, g1, g2, nI_add]
        exact ⟨U + g k, by omega, rfl, rfl⟩
      · rw [if_neg (fun z => q ((bt_n0 (by omega)).mp z)), if_neg (fun z => q ((bt_1 (by omega)).mp z)), u2, u3]
        exact ⟨U, by omega, rfl, rfl⟩
  obtain ⟨U, u1, u2, u3⟩ := h1 n (Nat.le_refl _)
  have up : ∀ j, n + j ≤ 10 → meaA pa st (n + j) = meaA pa st n := by
    intro j
    induction j with
    | zero => intro _; rfl
    | succ j ih =>
      intro hj
      show (if ¬ bt st (nI (n + j)) = 0 then meaA pa st (n + j) + pa (n + j) else meaA pa st (n + j)) = _
      rw [if_neg (fun z => absurd ((bt_n0 (by omega)).mp z) (by rw [hst (n + j) (by omega)]; decide)), ih (by omega)]
  refine ⟨U, by omega, ?_, u3⟩
  rw [show (10 : Nat) = n + (10 - n) by omega, up (10 - n) (by omega), u2]
theorem bits_pos {n : Nat} (hn : n ≤ 10) {st : Int32} (h : 1 ≤ st ∧ st ≤ allI (nI n)) : ∃ c, 0 < c ∧ c ≤ 10 ∧ popI st = nI c ∧ bitsA st 10 = nI c := by
  have hb : below n st := fire_below hn h
  have e : ∀ k, bitsA st k = nI (bitsN st k) := by
    intro k
    induction k with
    | zero => rfl
    | succ k ih =>
      show bitsA st k + bt st (nI k) = _
      rw [ih, bitsN_S]
  refine ⟨bitsN st 10, ?_, bitsN_le st 10, by rw [pop_eq (below_mono hb hn), e], e 10⟩
  refine Nat.pos_of_ne_zero fun z => ?_
  have hz : ∀ k, k ≤ 10 → bitsN st k = 0 → ∀ i, i < k → tb st i = false := by
    intro k
    induction k with
    | zero => intro _ _ i hi; omega
    | succ k ih =>
      intro hk hk0 i hi
      have hk0 : bitsN st k + (if bt st (nI k) = 1 then 1 else 0) = 0 := hk0
      by_cases w : bt st (nI k) = 1
      · rw [if_pos w] at hk0; omega
      · by_cases e : i = k
        · rw [e]
          cases q : tb st k
          · rfl
          · exact absurd ((bt_1 (by omega)).mpr q) w
        · exact ih (by omega) (by omega) i (by omega)
  have : st = 0 := zero_iff.mpr fun i hi => by
    by_cases w : i < 10
    · exact hz 10 (Nat.le_refl _) z i w
    · exact hb i (by omega)
  rw [this] at h
  exact absurd h.1 (by decide)
end ANS
/-! class and reference side by side, between calls -/
def INV (nn mm : Nat) (wo pr ne en : Row) (ke : Int32) (ow pl : Row) (bd : Int32) (sq : Nat) (wx wy wt : Row) (nn' mm' : Nat) (ke' : Bool) (bd' : Int32) (sq' : Nat) (en' ne' wo' pr' ow' pl' wa' : Row) : Prop :=
  nn' = nn ∧ mm' = mm ∧ bd' = bd ∧ sq' = sq ∧ mm ≤ 24 ∧ sq ≤ 40 ∧ (∃ (b : Nat) (p q : Nat → Nat), SNet nn b pr pr' ne ne' wo wo' bd p q) ∧ (∃ o : Nat → Nat, SPur ow ow' ke ke' o) ∧ ke = (if ke' = true then 1 else 0) ∧ (∀ l, l < mm → en l = pairM en' l) ∧ (∀ t, t < 8 → pl t = pl' (t + 1) ∧ 0 ≤ pl' (t + 1)) ∧ WL wa' wx wy wt sq
section INVS
variable {nn mm : Nat} {wo pr ne en : Row} {ke : Int32} {ow pl : Row} {bd : Int32} {sq : Nat} {wx wy wt : Row} {nn' mm' : Nat} {ke' : Bool} {bd' : Int32} {sq' : Nat} {en' ne' wo' pr' ow' pl' wa' : Row}
theorem inv_net (h : INV nn mm wo pr ne en ke ow pl bd sq wx wy wt nn' mm' ke' bd' sq' en' ne' wo' pr' ow' pl' wa') (v : Int32) :
    INV (if 1 ≤ v ∧ v ≤ 10 then v.toNatClampNeg else nn) (if 1 ≤ v ∧ v ≤ 10 then 0 else mm) (if 1 ≤ v ∧ v ≤ 10 then fillF wo 1 10 else wo) (if 1 ≤ v ∧ v ≤ 10 then fillF pr 1 10 else pr) (if 1 ≤ v ∧ v ≤ 10 then fillF ne 0 10 else ne) en ke ow (if 1 ≤ v ∧ v ≤ 10 then fillF pl 0 8 else pl) bd sq wx wy wt
      (if 1 ≤ v ∧ v ≤ 10 then v.toNatClampNeg else nn') (if 1 ≤ v ∧ v ≤ 10 then 0 else mm') ke' bd' sq' en' (if 1 ≤ v ∧ v ≤ 10 then fillF ne' 0 10 else ne') (if 1 ≤ v ∧ v ≤ 10 then fillF wo' 1 10 else wo') (if 1 ≤ v ∧ v ≤ 10 then fillF pr' 1 10 else pr') ow' (if 1 ≤ v ∧ v ≤ 10 then fillF pl' 0 9 else pl') wa' := by
  by_cases hv : 1 ≤ v ∧ v ≤ 10
  · simp only [if_pos hv]
    obtain ⟨K, hK, rfl⟩ := net_ix hv
    rw [nI_clamp (by omega)]
    obtain ⟨e1, e2, e3, e4, hm, hsq, ⟨b, p, q, hs⟩, hp, hke, hen, hpl, hw⟩ := h
    obtain ⟨-, -, -, -, -, -, -, -, -, -, hbd, hb1, hb2⟩ := hs
    have f1 : ∀ (f : Row) (x : Int32) (k : Nat), k < 10 → fillF f x 10 k = x := fun f x k hk => if_pos hk
    refine ⟨rfl, rfl, e3, e4, by omega, hsq, ⟨b, fun _ => 1, fun _ => 1, hK.1, hK.2, fun k hk => ?_, fun k hk => ?_, fun k hk => ?_, fun k hk => ?_, fun k hk => ?_, fun _ _ => (by decide : 1 ≤ 9), fun k hk => ?_, fun _ _ => (by decide : 1 ≤ 9), hbd, hb1, hb2⟩, hp, hke, fun l hl => by omega, fun t ht => ?_, hw⟩
    · rw [f1 _ _ k (by omega), f1 _ _ k (by omega)]
    · rw [f1 _ _ k (by omega), f1 _ _ k (by omega)]
    · rw [f1 _ _ k (by omega), f1 _ _ k (by omega)]
    · rw [f1 _ _ k (by omega)]
      exact below_0 K
    · rw [f1 _ _ k (by omega)]
      rfl
    · rw [f1 _ _ k (by omega)]
      rfl
    · unfold fillF
      rw [if_pos ht, if_pos (by omega)]
      exact ⟨rfl, by decide⟩
  · simp only [if_neg hv]
    exact h
theorem inv_line (h : INV nn mm wo pr ne en ke ow pl bd sq wx wy wt nn' mm' ke' bd' sq' en' ne' wo' pr' ow' pl' wa') (a b : Int32) :
    (lineO nn mm ne a b = lineR nn' mm' ne' a b) ∧
    INV nn (if linkO nn mm ne a b = true then mm + 1 else mm) wo pr (if linkO nn mm ne a b = true then upd (upd ne a.toNatClampNeg (ne a.toNatClampNeg ||| (1 <<< (b &&& 31)))) b.toNatClampNeg (upd ne a.toNatClampNeg (ne a.toNatClampNeg ||| (1 <<< (b &&& 31))) b.toNatClampNeg ||| (1 <<< (a &&& 31))) else ne) (if linkO nn mm ne a b = true then upd en mm ((1 <<< (a &&& 31)) ||| (1 <<< (b &&& 31))) else en) ke ow pl bd sq wx wy wt
      nn' (if linkR nn' mm' ne' a b = true then mm' + 1 else mm') ke' bd' sq' (if linkR nn' mm' ne' a b = true then upd (upd en' (2 * mm') a) (2 * mm' + 1) b else en') (if linkR nn' mm' ne' a b = true then upd (upd ne' a.toNatClampNeg (ne' a.toNatClampNeg ||| (1 <<< (b &&& 31)))) b.toNatClampNeg (upd ne' a.toNatClampNeg (ne' a.toNatClampNeg ||| (1 <<< (b &&& 31))) b.toNatClampNeg ||| (1 <<< (a &&& 31))) else ne') wo' pr' ow' pl' wa' := by
  have h0 := h
  obtain ⟨e1, e2, e3, e4, hm, hsq, ⟨b0, p, q, hs⟩, hp, hke, hen, hpl, hw⟩ := h
  subst e1; subst e2
  obtain ⟨hn1, hn, hpr, hne, hwo, hbl, hp1, hp9, hq1, hq9, hbd, hb1, hb2⟩ := hs
  by_cases hr : (0 ≤ a ∧ a ≤ nI nn' - 1) ∧ (0 ≤ b ∧ b ≤ nI nn' - 1)
  · obtain ⟨A, hA, rfl⟩ := i_hasE hn hn1 hr.1
    obtain ⟨B, hB, rfl⟩ := i_hasE hn hn1 hr.2
    have cA : (nI A).toNatClampNeg = A := nI_clamp (by omega)
    have cB : (nI B).toNatClampNeg = B := nI_clamp (by omega)
    have hbt : (¬ bt (ne A) (nI B) = 0) = (bt (ne' A) (nI B) = 1) := by
      rw [hne A hA]
      exact propext ⟨fun z => (bt_1 (by omega)).mpr ((bt_n0 (by omega)).mp z), fun z => (bt_n0 (by omega)).mpr ((bt_1 (by omega)).mp z)⟩
    have hbt0 : (bt (ne A) (nI B) = 0) = ¬ (bt (ne' A) (nI B) = 1) := by
      rw [← hbt]
      exact propext Decidable.not_not.symm
    have hlk : linkO nn' mm' ne (nI A) (nI B) = linkR nn' mm' ne' (nI A) (nI B) := by
      unfold linkO linkR
      rw [decide_eq_decide, cA, hbt0, show (mm' < 24) = ¬ mm' = 24 from propext (by omega)]
    refine ⟨?_, ?_⟩
    · unfold lineO lineR
      rw [if_pos hr, if_pos hr, cA]
      by_cases z : nI A = nI B
      · rw [if_pos z, if_pos z]
      · rw [if_neg z, if_neg z]
        by_cases w : bt (ne' A) (nI B) = 1
        · rw [if_pos w, if_pos (by rw [hbt]; exact w)]
        · rw [if_neg w, if_neg (by rw [hbt]; exact w)]
          by_cases y : mm' = 24
          · rw [if_pos y, if_neg (by omega)]
          · rw [if_neg y, if_pos (by omega)]
    · rw [hlk]
      by_cases hl : linkR nn' mm' ne' (nI A) (nI B) = true
      · simp only [if_pos hl]
        rw [cA, cB]
        have hm24 : mm' < 24 := by
          have := of_decide_eq_true hl
          omega
        refine ⟨rfl, rfl, e3, e4, by omega, hsq, ⟨b0, p, q, hn1, hn, hpr, fun k hk => ?_, hwo, fun k hk => ?_, hp1, hp9, hq1, hq9, hbd, hb1, hb2⟩, hp, hke, fun l hl => ?_, hpl, hw⟩
        · by_cases kB : k = B
          · rw [kB, pk_us, pk_us]
            by_cases BA : B = A
            · rw [BA, pk_us, pk_us, hne A hA]
            · rw [pk_un BA, pk_un BA, hne B hB]
          · rw [pk_un kB, pk_un kB]
            by_cases kA : k = A
            · rw [kA, pk_us, pk_us, hne A hA]
            · rw [pk_un kA, pk_un kA, hne k hk]
        · by_cases kB : k = B
          · rw [kB, pk_us]
            refine below_or ?_ (below_shl hA hn)
            by_cases BA : B = A
            · rw [BA, pk_us]
              exact below_or (hbl A hA) (BA ▸ below_shl hB hn)
            · rw [pk_un BA]
              exact hbl B hB
          · rw [pk_un kB]
            by_cases kA : k = A
            · rw [kA, pk_us]
              exact below_or (hbl A hA) (below_shl hB hn)
            · rw [pk_un kA]
              exact hbl k hk
        · unfold pairM
          by_cases z : l = mm'
          · rw [z, pk_us, pk_un (by omega), pk_us, pk_us]
          · rw [pk_un z, pk_un (f := upd en' (2 * mm') (nI A)) (by omega), pk_un (f := en') (by omega), pk_un (f := upd en' (2 * mm') (nI A)) (by omega), pk_un (f := en') (by omega)]
            exact hen l (by omega)
      · simp only [if_neg hl]
        exact h0
  · have hl1 : ¬ linkO nn' mm' ne a b = true := fun z => hr (of_decide_eq_true z).1
    have hl2 : ¬ linkR nn' mm' ne' a b = true := fun z => hr (of_decide_eq_true z).1
    refine ⟨?_, ?_⟩
    · unfold lineO lineR
      rw [if_neg hr, if_neg hr]
    · simp only [if_neg hl1, if_neg hl2]
      exact h0
theorem what_01 {what : Int32} (h0 : ¬ what = 0) (h1 : ¬ what = 1) : ¬ (0 ≤ what ∧ what ≤ 1) := fun z => h1 (what_1 z h0)
theorem inv_node (h : INV nn mm wo pr ne en ke ow pl bd sq wx wy wt nn' mm' ke' bd' sq' en' ne' wo' pr' ow' pl' wa') (k what v : Int32) :
    (nodeT (nI nn) wo pr k what v).1 = (nodeR (nI nn') wo' pr' k what v).1 ∧
    INV nn mm (nodeT (nI nn) wo pr k what v).2.1 (nodeT (nI nn) wo pr k what v).2.2 ne en ke ow pl bd sq wx wy wt nn' mm' ke' bd' sq' en' ne' (nodeR (nI nn') wo' pr' k what v).2.1 (nodeR (nI nn') wo' pr' k what v).2.2 ow' pl' wa' := by
  have h0 := h
  obtain ⟨e1, e2, e3, e4, hm, hsq, ⟨b0, p, q, hs⟩, hp, hke, hen, hpl, hw⟩ := h
  subst e1
  obtain ⟨hn1, hn, hpr, hne, hwo, hbl, hp1, hp9, hq1, hq9, hbd, hb1, hb2⟩ := hs
  unfold nodeT nodeR nodeT2
  by_cases hr : 0 ≤ k ∧ k ≤ nI nn' - 1
  · obtain ⟨A, hA, rfl⟩ := i_hasE hn hn1 hr
    have cA : (nI A).toNatClampNeg = A := nI_clamp (by omega)
    simp only [if_pos hr, cA]
    by_cases w0 : what = 0
    · subst w0
      have z01 : (0 : Int32) ≤ 0 ∧ (0 : Int32) ≤ 1 := by decide
      simp only [if_pos rfl, ite_true, if_pos z01, if_neg (show ¬ (0 : Int32) = 1 by decide)]
      by_cases hv : 0 ≤ v ∧ v ≤ 9
      · obtain ⟨V, hV, rfl⟩ := i_ixe (n := 9) hv.1 hv.2 (by omega)
        simp only [if_pos hv]
        refine ⟨hwo A hA, rfl, e2, e3, e4, hm, hsq, ⟨b0, p, fun j => if j = A then V else q j, hn1, hn, hpr, hne, fun j hj => ?_, hbl, hp1, hp9, fun j hj => ?_, fun j hj => ?_, hbd, hb1, hb2⟩, hp, hke, hen, hpl, hw⟩
        · by_cases z : j = A
          · rw [z, pk_us, pk_us]
          · rw [pk_un z, pk_un z, hwo j hj]
        · show upd wo' A (nI V) j = nI (if j = A then V else q j)
          by_cases z : j = A
          · rw [z, pk_us, if_pos rfl]
          · rw [pk_un z, if_neg z, hq1 j hj]
        · show (if j = A then V else q j) ≤ 9
          by_cases z : j = A
          · rw [if_pos z]; exact hV
          · rw [if_neg z]; exact hq9 j hj
      · simp only [if_neg hv]
        exact ⟨by trivial, h0⟩
    · by_cases w1 : what = 1
      · subst w1
        have z01 : (0 : Int32) ≤ 1 ∧ (1 : Int32) ≤ 1 := by decide
        simp only [if_neg w0, if_pos rfl, ite_true, if_pos z01]
        by_cases hv : 1 ≤ v ∧ v ≤ 9
        · obtain ⟨V, hV, rfl⟩ := i_ixe (n := 9) (Int32.le_trans (by decide) hv.1) hv.2 (by omega)
          simp only [if_pos hv]
          refine ⟨hpr A hA, rfl, e2, e3, e4, hm, hsq, ⟨b0, fun j => if j = A then V else p j, q, hn1, hn, fun j hj => ?_, hne, hwo, hbl, fun j hj => ?_, fun j hj => ?_, hq1, hq9, hbd, hb1, hb2⟩, hp, hke, hen, hpl, hw⟩
          · by_cases z : j = A
            · rw [z, pk_us, pk_us]
            · rw [pk_un z, pk_un z, hpr j hj]
          · show upd pr' A (nI V) j = nI (if j = A then V else p j)
            by_cases z : j = A
            · rw [z, pk_us, if_pos rfl]
            · rw [pk_un z, if_neg z, hp1 j hj]
          · show (if j = A then V else p j) ≤ 9
            by_cases z : j = A
            · rw [if_pos z]; exact hV
            · rw [if_neg z]; exact hp9 j hj
        · simp only [if_neg hv]
          exact ⟨by trivial, h0⟩
      · simp only [if_neg w0, if_neg w1, if_neg (what_01 w0 w1)]
        exact ⟨by trivial, h0⟩
  · simp only [if_neg hr]
    exact ⟨by trivial, h0⟩
theorem tick_pred {T : Nat} (h1 : 1 ≤ T) (h8 : T ≤ 8) : (nI T - 1).toNatClampNeg = T - 1 := by
  rw [show nI T - 1 = nI (T - 1) from pk_sub (a := T) (b := 1) h1, nI_clamp (by omega)]
theorem inv_purse (h : INV nn mm wo pr ne en ke ow pl bd sq wx wy wt nn' mm' ke' bd' sq' en' ne' wo' pr' ow' pl' wa') (t v : Int32) :
    (purseT ow t v).1 = (purseR ow' t v).1 ∧ INV nn mm wo pr ne en ke (purseT ow t v).2 pl bd sq wx wy wt nn' mm' ke' bd' sq' en' ne' wo' pr' (purseR ow' t v).2 pl' wa' := by
  have h0 := h
  obtain ⟨e1, e2, e3, e4, hm, hsq, hs, ⟨o, o1, o2, o3⟩, hke, hen, hpl, hw⟩ := h
  unfold purseT purseR
  by_cases ht : 1 ≤ t ∧ t ≤ 8
  · obtain ⟨T, hT, rfl⟩ := tick_ix ht
    simp only [if_pos ht]
    by_cases hv : 0 ≤ v ∧ v ≤ 20
    · obtain ⟨V, hV, rfl⟩ := i_ixe (n := 20) hv.1 hv.2 (by omega)
      simp only [if_pos hv]
      rw [tick_pred hT.1 hT.2, nI_clamp (by omega)]
      refine ⟨by rw [o1 (T - 1) (by omega), show T - 1 + 1 = T by omega], e1, e2, e3, e4, hm, hsq, hs, ⟨fun j => if j = T then V else o j, fun j hj => ?_, fun j j1 j8 => ?_, o3⟩, hke, hen, hpl, hw⟩
      · by_cases z : j = T - 1
        · rw [z, pk_us, show T - 1 + 1 = T by omega, pk_us]
        · rw [pk_un z, pk_un (by omega), o1 j hj]
      · show upd ow' T (nI V) j = nI (if j = T then V else o j) ∧ (if j = T then V else o j) ≤ 20
        by_cases z : j = T
        · rw [z, pk_us, if_pos rfl]
          exact ⟨rfl, hV⟩
        · rw [pk_un z, if_neg z]
          exact o2 j j1 j8
    · simp only [if_neg hv]
      exact ⟨by trivial, h0⟩
  · simp only [if_neg ht]
    exact ⟨by trivial, h0⟩
theorem inv_plan (h : INV nn mm wo pr ne en ke ow pl bd sq wx wy wt nn' mm' ke' bd' sq' en' ne' wo' pr' ow' pl' wa') (t v : Int32) :
    (planT pl t v).1 = (planR pl' t v).1 ∧ INV nn mm wo pr ne en ke ow (planT pl t v).2 bd sq wx wy wt nn' mm' ke' bd' sq' en' ne' wo' pr' ow' (planR pl' t v).2 wa' := by
  have h0 := h
  obtain ⟨e1, e2, e3, e4, hm, hsq, hs, hp, hke, hen, hpl, hw⟩ := h
  unfold planT planR
  by_cases ht : 1 ≤ t ∧ t ≤ 8
  · obtain ⟨T, hT, rfl⟩ := tick_ix ht
    simp only [if_pos ht]
    by_cases hv : 0 ≤ v ∧ v ≤ 1023
    · simp only [if_pos hv]
      rw [tick_pred hT.1 hT.2, nI_clamp (by omega)]
      refine ⟨by rw [(hpl (T - 1) (by omega)).1, show T - 1 + 1 = T by omega], e1, e2, e3, e4, hm, hsq, hs, hp, hke, hen, fun j hj => ?_, hw⟩
      by_cases z : j = T - 1
      · rw [z, pk_us, show T - 1 + 1 = T by omega, pk_us]
        exact ⟨rfl, hv.1⟩
      · rw [pk_un z, pk_un (by omega)]
        exact hpl j hj
    · simp only [if_neg hv]
      exact ⟨by trivial, h0⟩
  · simp only [if_neg ht]
    exact ⟨by trivial, h0⟩
theorem inv_rule (h : INV nn mm wo pr ne en ke ow pl bd sq wx wy wt nn' mm' ke' bd' sq' en' ne' wo' pr' ow' pl' wa') (what v : Int32) :
    (ruleT ke bd what v).1 = (ruleM ke' bd' what v).1 ∧ INV nn mm wo pr ne en (ruleT ke bd what v).2.1 ow pl (ruleT ke bd what v).2.2 sq wx wy wt nn' mm' (ruleM ke' bd' what v).2.1 (ruleM ke' bd' what v).2.2 sq' en' ne' wo' pr' ow' pl' wa' := by
  have h0 := h
  obtain ⟨e1, e2, e3, e4, hm, hsq, ⟨b0, p, q, hs⟩, ⟨o, o1, o2, o3⟩, hke, hen, hpl, hw⟩ := h
  obtain ⟨hn1, hn, hpr, hne, hwo, hbl, hp1, hp9, hq1, hq9, hbd, hb1, hb2⟩ := hs
  unfold ruleT ruleM ruleT2
  by_cases w0 : what = 0
  · subst w0
    have z01 : (0 : Int32) ≤ 0 ∧ (0 : Int32) ≤ 1 := by decide
    simp only [if_pos rfl, ite_true, if_pos z01, if_neg (show ¬ (0 : Int32) = 1 by decide)]
    by_cases hv : 0 ≤ v ∧ v ≤ 1
    · simp only [if_pos hv]
      refine ⟨hke, e1, e2, e3, e4, hm, hsq, ⟨b0, p, q, hn1, hn, hpr, hne, hwo, hbl, hp1, hp9, hq1, hq9, hbd, hb1, hb2⟩, ⟨o, o1, o2, ?_⟩, ?_, hen, hpl, hw⟩
      · rw [decide_eq_true_iff]
      · by_cases z : v = 1
        · rw [if_pos (decide_eq_true z), z]
        · rw [if_neg (by rw [decide_eq_true_iff]; exact z)]
          exact Decidable.byContradiction fun g => z (what_1 hv g)
    · simp only [if_neg hv]
      exact ⟨by trivial, h0⟩
  · by_cases w1 : what = 1
    · subst w1
      have z01 : (0 : Int32) ≤ 1 ∧ (1 : Int32) ≤ 1 := by decide
      simp only [if_neg w0, if_pos rfl, ite_true, if_pos z01]
      by_cases hv : 50 ≤ v ∧ v ≤ 1000
      · simp only [if_pos hv]
        obtain ⟨V, hV, rfl⟩ := i_ixe (n := 1000) (Int32.le_trans (by decide) hv.1) hv.2 (by omega)
        exact ⟨e3.symm, e1, e2, rfl, e4, hm, hsq, ⟨V, p, q, hn1, hn, hpr, hne, hwo, hbl, hp1, hp9, hq1, hq9, rfl, (nI_leI (a := 50) (by omega) (by omega)).mp hv.1, hV⟩, ⟨o, o1, o2, o3⟩, hke, hen, hpl, hw⟩
      · simp only [if_neg hv]
        exact ⟨by trivial, h0⟩
    · simp only [if_neg w0, if_neg w1, if_neg (what_01 w0 w1)]
      exact ⟨by trivial, h0⟩
theorem inv_count (h : INV nn mm wo pr ne en ke ow pl bd sq wx wy wt nn' mm' ke' bd' sq' en' ne' wo' pr' ow' pl' wa') (what : Int32) : countO nn mm wo sq wt what = countR nn' mm' wo' sq' wa' what := by
  obtain ⟨e1, e2, e3, e4, hm, hsq, ⟨b0, p, q, hs⟩, hp, hke, hen, hpl, hw⟩ := h
  subst e1; subst e2; subst e4
  obtain ⟨hn1, hn, hpr, hne, hwo, hbl, hp1, hp9, hq1, hq9, hbd, hb1, hb2⟩ := hs
  unfold countO countR
  rw [sum_ten hn hwo (below_all hn), need_eq (fun k hk => by obtain ⟨X, Y, -, -, -, -, -, -, h5⟩ := hw k hk; exact h5)]
theorem inv_take (h : INV nn mm wo pr ne en ke ow pl bd sq wx wy wt nn' mm' ke' bd' sq' en' ne' wo' pr' ow' pl' wa') {kept pz : Row} {P : Prop} [Decidable P] (hk : P → ∀ i, i < 8 → 0 ≤ kept i) (hz : ∀ t, 1 ≤ t → t ≤ 8 → pz t = if P then kept (t - 1) else pl' t) :
    INV nn mm wo pr ne en ke ow (if P then cpF kept pl 8 else pl) bd sq wx wy wt nn' mm' ke' bd' sq' en' ne' wo' pr' ow' pz wa' := by
  obtain ⟨e1, e2, e3, e4, hm, hsq, hs, hp, hke, hen, hpl, hw⟩ := h
  refine ⟨e1, e2, e3, e4, hm, hsq, hs, hp, hke, hen, fun t ht => ?_, hw⟩
  have z := hz (t + 1) (by omega) (by omega)
  rw [show t + 1 - 1 = t by omega] at z
  rw [z]
  by_cases hP : P
  · rw [if_pos hP, if_pos hP]
    refine ⟨?_, hk hP t ht⟩
    unfold cpF
    rw [if_pos ht]
  · rw [if_neg hP, if_neg hP]
    exact hpl t ht
theorem crd_of {x : Int32} (h : -30 ≤ x ∧ x ≤ 30) : ∃ X, X ≤ 60 ∧ x = crd X := by
  have h1 := Int32.le_iff_toInt_le.mp h.1
  have h2 := Int32.le_iff_toInt_le.mp h.2
  have e1 : (-30 : Int32).toInt = -30 := rfl
  have e2 : (30 : Int32).toInt = 30 := rfl
  rw [e1] at h1
  rw [e2] at h2
  refine ⟨(x.toInt + 30).toNat, by omega, ?_⟩
  have e : x + 30 = nI (x.toInt + 30).toNat := by
    apply Int32.toInt_inj.mp
    rw [nI_toInt (by omega), Int32.toInt_add, e2, Int.bmod_eq_of_le (by omega) (by omega)]
    omega
  show x = nI _ - 30
  rw [← e, Int32.add_sub_cancel]
theorem inv_wall (h : INV nn mm wo pr ne en ke ow pl bd sq wx wy wt nn' mm' ke' bd' sq' en' ne' wo' pr' ow' pl' wa') (x y t : Int32) :
    wallO wx wy sq x y t = wallR wa' sq' x y t ∧ INV nn mm wo pr ne en ke ow pl bd (if wallB wx wy sq x y t = true then sq + 1 else sq) (if wallB wx wy sq x y t = true then upd wx sq x else wx) (if wallB wx wy sq x y t = true then upd wy sq y else wy) (if wallB wx wy sq x y t = true then upd wt sq t else wt)
      nn' mm' ke' bd' (if wallC wa' sq' x y t = true then sq' + 1 else sq') en' ne' wo' pr' ow' pl' (if wallC wa' sq' x y t = true then upd (upd (upd wa' (3 * sq') x) (3 * sq' + 1) y) (3 * sq' + 2) t else wa') := by
  have h0 := h
  obtain ⟨e1, e2, e3, e4, hm, hsq, hs, hp, hke, hen, hpl, hw⟩ := h
  subst e4
  obtain ⟨a1, a2⟩ := wall_ans (x := x) (y := y) (t := t) hsq (fun k hk => by
    obtain ⟨X, Y, -, -, h1, h2, h3, h4, -⟩ := hw k hk
    exact ⟨h1.trans h3.symm, h2.trans h4.symm⟩)
  refine ⟨a1, ?_⟩
  rw [a2]
  by_cases hc : wallC wa' sq' x y t = true
  · simp only [if_pos hc]
    have hd := of_decide_eq_true hc
    obtain ⟨X, hX, eX⟩ := crd_of hd.1
    obtain ⟨Y, hY, eY⟩ := crd_of hd.2.1
    have h40 : sq' < 40 := by
      have := hd.2.2.2.2.2
      omega
    refine ⟨e1, e2, e3, rfl, hm, by omega, hs, hp, hke, hen, hpl, fun k hk => ?_⟩
    by_cases z : k = sq'
    · refine ⟨X, Y, hX, hY, ?_, ?_, ?_, ?_, ?_⟩
      · rw [z, pk_us]; exact eX
      · rw [z, pk_us]; exact eY
      · rw [z, pk_un (by omega), pk_un (by omega), pk_us]; exact eX
      · rw [z, pk_un (by omega), pk_us]; exact eY
      · rw [z, pk_us, pk_us]
    · obtain ⟨X, Y, hX, hY, w1, w2, w3, w4, w5⟩ := hw k (by omega)
      have off : ∀ j, j < 3 → upd (upd (upd wa' (3 * sq') x) (3 * sq' + 1) y) (3 * sq' + 2) t (3 * k + j) = wa' (3 * k + j) := fun j hj => by
        rw [pk_un (by omega), pk_un (by omega), pk_un (by omega)]
      refine ⟨X, Y, hX, hY, ?_, ?_, ?_, ?_, ?_⟩
      · rw [pk_un z]; exact w1
      · rw [pk_un z]; exact w2
      · exact (off 0 (by omega)).trans w3
      · exact (off 1 (by omega)).trans w4
      · rw [pk_un z, off 2 (by omega)]; exact w5
  · simp only [if_neg hc]
    exact h0
theorem inv_raze (h : INV nn mm wo pr ne en ke ow pl bd sq wx wy wt nn' mm' ke' bd' sq' en' ne' wo' pr' ow' pl' wa') : INV nn mm wo pr ne en ke ow pl bd 0 wx wy wt nn' mm' ke' bd' 0 en' ne' wo' pr' ow' pl' wa' := by
  obtain ⟨e1, e2, e3, e4, hm, hsq, hs, hp, hke, hen, hpl, hw⟩ := h
  exact ⟨e1, e2, e3, rfl, hm, by omega, hs, hp, hke, hen, hpl, fun k hk => by omega⟩
end INVS

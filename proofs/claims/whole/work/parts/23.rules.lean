/-! rules: the class's picks are the reference's -/
theorem small_of {n : Nat} {x : Int32} (h : below n x) : ∃ m : Nat, m < 2 ^ n ∧ x = nI m := by
  refine ⟨x.toBitVec.toNat, Nat.lt_pow_two_of_testBit _ (fun i hi => ?_), Int32.toBitVec_inj.mp (by show x.toBitVec = BitVec.ofNat 32 x.toBitVec.toNat; simp)⟩
  have := h i hi
  unfold tb at this
  rw [BitVec.testBit_toNat]
  exact this
theorem pop_bits : ∀ m, m < 1024 → popI (nI m) = bitsA (nI m) 10 := by decide +kernel
theorem pop_eq {x : Int32} (h : below 10 x) : popI x = bitsA x 10 := by
  obtain ⟨m, hm, rfl⟩ := small_of h
  exact pop_bits m hm
theorem below_mono {n k : Nat} {x : Int32} (h : below n x) (hk : n ≤ k) : below k x := fun i hi => h i (by omega)
def psC (x : Cs) : Ps := (x.1, x.2.1, x.2.2.2.2.2.2, x.2.2.2.1)
theorem rule_3 {ru : Int32} (h : 0 ≤ ru ∧ ru ≤ 2) : ru = 0 ∨ ru = 1 ∨ ru = 2 := by
  obtain ⟨k, hk, rfl⟩ := i_ixe (n := 2) h.1 h.2 (by omega)
  rcases (show k = 0 ∨ k = 1 ∨ k = 2 by omega) with rfl | rfl | rfl
  · exact Or.inl rfl
  · exact Or.inr (Or.inl rfl)
  · exact Or.inr (Or.inr rfl)
section RULES
variable {n : Nat} {wo wo' pr pr' ne ne' ow ow' : Row} {ke : Int32} {ke' : Bool} {ru : Int32}
theorem rank_eq (hn : n ≤ 10) (hr : 0 ≤ ru ∧ ru ≤ 2) (hwo : ∀ k, k < n → wo k = wo' k) (hne : ∀ k, k < n → ne k = ne' k) (hbl : ∀ k, k < n → below n (ne' k)) (bu gu : Int32) {k : Nat} (hk : k < n) : rankI wo ne ru (bu ||| gu) k = rankM wo' ne' ru bu gu k := by
  unfold rankI rankM
  rcases rule_3 hr with rfl | rfl | rfl
  · rw [if_neg (by decide), if_neg (by decide), if_pos rfl]
  · rw [if_pos rfl, if_neg (by decide), if_pos rfl]
    exact hwo k hk
  · rw [if_neg (by decide), if_pos rfl, if_neg (by decide), if_neg (by decide), hne k hk]
    have e : ne' k &&& ((bu ||| gu) ^^^ (-1)) = ne' k &&& (bu ^^^ (-1)) &&& (gu ^^^ (-1)) := tb_ext fun i hi => by
      rw [tb_and, tb_and, tb_and, tb_not _ hi, tb_not _ hi, tb_not _ hi, tb_or]
      cases tb (ne' k) i <;> cases tb bu i <;> cases tb gu i <;> rfl
    rw [e]
    exact pop_eq (below_mono (below_and (below_and (hbl k hk))) hn)
theorem pick_upto (hn : n ≤ 10) (hr : 0 ≤ ru ∧ ru ≤ 2) (hwo : ∀ k, k < n → wo k = wo' k) (hpr : ∀ k, k < n → pr k = pr' k) (hne : ∀ k, k < n → ne k = ne' k) (hbl : ∀ k, k < n → below n (ne' k)) (bu gu mo : Int32) : ∀ j, j ≤ n → pickA wo ne pr ru bu gu (nearM n ne' bu gu) mo j = nextA n wo' ne' pr' ru bu gu mo j
  | 0, _ => rfl
  | j + 1, hj => by
    show pickS wo ne pr ru bu gu (nearM n ne' bu gu) mo j (pickA wo ne pr ru bu gu (nearM n ne' bu gu) mo j) = nextS n wo' ne' pr' ru bu gu mo j (nextA n wo' ne' pr' ru bu gu mo j)
    rw [pick_upto hn hr hwo hpr hne hbl bu gu mo j (by omega)]
    unfold pickS nextS
    rw [rank_eq hn hr hwo hne hbl bu gu (by omega), hpr j (by omega)]
    by_cases h1 : bt (nearM n ne' bu gu) (nI j) = 1
    · have h1' : ¬ bt (nearM n ne' bu gu) (nI j) = 0 := (bt_n0 (by omega)).mpr ((bt_1 (by omega)).mp h1)
      rw [if_pos h1]
      by_cases h2 : pr' j ≤ mo
      · rw [if_pos h2]
        by_cases h3 : (nextA n wo' ne' pr' ru bu gu mo j).2 < rankM wo' ne' ru bu gu j
        · rw [if_pos h3, if_pos ⟨h1', h2, h3⟩]
        · rw [if_neg h3, if_neg (fun q => h3 q.2.2)]
      · rw [if_neg h2, if_neg (fun q => h2 q.2.1)]
    · rw [if_neg h1, if_neg (fun q => h1 ((bt_1 (by omega)).mpr ((bt_n0 (by omega)).mp q.1)))]
theorem pick_eq (hn : n ≤ 10) (hr : 0 ≤ ru ∧ ru ≤ 2) (hwo : ∀ k, k < n → wo k = wo' k) (hpr : ∀ k, k < n → pr k = pr' k) (hne : ∀ k, k < n → ne k = ne' k) (hbl : ∀ k, k < n → below n (ne' k)) {bu : Int32} (hb : below n bu) (gu mo cs : Int32) : pickI wo ne pr ru bu gu mo = nextM n wo' ne' pr' ru (bu, gu, mo, cs) := by
  have up : ∀ j, n + j ≤ 10 → pickA wo ne pr ru bu gu (nearM n ne' bu gu) mo (n + j) = pickA wo ne pr ru bu gu (nearM n ne' bu gu) mo n := by
    intro j
    induction j with
    | zero => intro _; rfl
    | succ j ih =>
      intro hj
      show pickS wo ne pr ru bu gu (nearM n ne' bu gu) mo (n + j) (pickA wo ne pr ru bu gu (nearM n ne' bu gu) mo (n + j)) = _
      rw [ih (by omega)]
      unfold pickS
      rw [if_neg]
      rintro ⟨h, -⟩
      have := (bt_n0 (x := nearM n ne' bu gu) (k := n + j) (by omega)).mp h
      rw [below_thr hbl (n + j) (by omega)] at this
      cases this
  show (pickA wo ne pr ru bu gu (thr ne bu gu) mo 10).1 = (nextA n wo' ne' pr' ru bu gu mo n).1
  rw [thr_eq hn hne hb, show (10 : Nat) = n + (10 - n) by omega, up (10 - n) (by omega), pick_upto hn hr hwo hpr hne hbl bu gu mo n (Nat.le_refl _)]
theorem ruleS_keep (x : Cs) : (ruleS wo ne pr ru x).1 = x.1 ∧ (ruleS wo ne pr ru x).2.2.2.2.1 = x.2.2.2.2.1 ∧ (ruleS wo ne pr ru x).2.2.2.2.2.1 = x.2.2.2.2.2.1 := by
  unfold ruleS
  split <;> exact ⟨rfl, rfl, rfl⟩
theorem ruleA_keep (x : Cs) : ∀ k, (ruleA wo ne pr ru x k).1 = x.1 ∧ (ruleA wo ne pr ru x k).2.2.2.2.1 = x.2.2.2.2.1 ∧ (ruleA wo ne pr ru x k).2.2.2.2.2.1 = x.2.2.2.2.2.1
  | 0 => ⟨rfl, rfl, rfl⟩
  | k + 1 => by
    have h1 := ruleS_keep (wo := wo) (pr := pr) (ne := ne) (ru := ru) (ruleA wo ne pr ru x k)
    have h2 := ruleA_keep x k
    exact ⟨h1.1.trans h2.1, h1.2.1.trans h2.2.1, h1.2.2.trans h2.2.2⟩
theorem ruleA_in (x : Cs) : ∀ k, ruleA wo ne pr ru (ruleS wo ne pr ru x) k = ruleA wo ne pr ru x (k + 1)
  | 0 => rfl
  | k + 1 => by
    show ruleS wo ne pr ru (ruleA wo ne pr ru (ruleS wo ne pr ru x) k) = ruleS wo ne pr ru (ruleA wo ne pr ru x (k + 1))
    rw [ruleA_in x k]
theorem ruleA_fix {x : Cs} (h : ruleS wo ne pr ru x = x) : ∀ k, ruleA wo ne pr ru x k = x
  | 0 => rfl
  | k + 1 => by
    show ruleS wo ne pr ru (ruleA wo ne pr ru x k) = x
    rw [ruleA_fix h k, h]
theorem rule_pick (hn : n ≤ 10) (hr : 0 ≤ ru ∧ ru ≤ 2) (hwo : ∀ k, k < n → wo k = wo' k) (hpr : ∀ k, k < n → pr k = pr' k) (hne : ∀ k, k < n → ne k = ne' k) (hbl : ∀ k, k < n → below n (ne' k)) : ∀ (d : Nat) (x : Cs), below n x.1 → n - cntB x.2.1 n ≤ d → ∀ j, d < j → pickL n wo' ne' pr' ru j (psC x) = some (psC (ruleA wo ne pr ru x d))
  | d, x, hx, hd, j, hj => by
    obtain ⟨i, rfl⟩ : ∃ i, j = i + 1 := ⟨j - 1, by omega⟩
    have he : pickI wo ne pr ru x.1 x.2.1 x.2.2.2.2.2.2 = nextM n wo' ne' pr' ru (psC x) := pick_eq hn hr hwo hpr hne hbl hx _ _ _
    by_cases q : nextM n wo' ne' pr' ru (psC x) < 0
    · have hs : ruleS wo ne pr ru x = x := by
        unfold ruleS
        rw [he, if_pos ((next_neg ru _ hn).mp q)]
      rw [pickL, if_pos q, ruleA_fix hs]
    · obtain ⟨k, h1, h2, h3⟩ := next_more ru (psC x) hn q
      have hs : ruleS wo ne pr ru x = payC ((1 : Int32) <<< (nI k &&& 31)) (sumM pr' ((1 : Int32) <<< (nI k &&& 31)) n) x := by
        unfold ruleS
        rw [he, if_neg (fun z => q ((next_neg ru _ hn).mpr z)), h2, sum_ten hn hpr (below_shl h1 hn)]
      have hg : guardM n pr' (1 <<< (nextM n wo' ne' pr' ru (psC x) &&& 31)) (psC x) = psC (ruleS wo ne pr ru x) := by
        rw [hs, h2]
        rfl
      have h4 := cntB_le (x.2.1 ||| ((1 : Int32) <<< (nI k &&& 31))) n
      have h5 : cntB x.2.1 n < cntB (x.2.1 ||| ((1 : Int32) <<< (nI k &&& 31))) n := h3
      cases d with
      | zero => omega
      | succ d =>
        rw [pickL, if_neg q, hg, ← ruleA_in]
        refine rule_pick hn hr hwo hpr hne hbl d (ruleS wo ne pr ru x) (by rw [(ruleS_keep x).1]; exact hx) ?_ i (by omega)
        rw [hs]
        show n - cntB (x.2.1 ||| _) n ≤ d
        omega
end RULES

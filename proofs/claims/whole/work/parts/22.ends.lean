/-! burnings and rules come to their end -/
section ENDS
variable {n : Nat} {wo wo' pr pr' ne ne' ow ow' : Row} {ke : Int32} {ke' : Bool}
theorem end_ok (hn : n ≤ 10) (hb : ∀ k, k < n → below n (ne k)) (gu : Int32) : ∀ (d : Nat) (f : Int32) (o : Nat), n - cntB f n ≤ d → ∀ j, d < j → ∃ e : Nat × Int32, endL n ne gu j o f = some e
  | 0, f, o, hd, j, hj => by
    obtain ⟨i, rfl⟩ : ∃ i, j = i + 1 := ⟨j - 1, by omega⟩
    have : nearM n ne f gu = 0 := Decidable.byContradiction fun q => by
      have h1 := near_more hn hb q
      have h2 := cntB_le (f ||| nearM n ne f gu) n
      omega
    exact ⟨_, by rw [endL, if_pos this]⟩
  | d + 1, f, o, hd, j, hj => by
    obtain ⟨i, rfl⟩ : ∃ i, j = i + 1 := ⟨j - 1, by omega⟩
    by_cases q : nearM n ne f gu = 0
    · exact ⟨_, by rw [endL, if_pos q]⟩
    · have h1 := near_more hn hb q
      obtain ⟨e, he⟩ := end_ok hn hb gu d (f ||| nearM n ne f gu) (o + 1) (by omega) i (by omega)
      exact ⟨e, by rw [endL, if_neg q]; exact he⟩
theorem endOK (hn : n ≤ 10) (hb : ∀ k, k < n → below n (ne k)) : EndOK n ne := fun gu o f => end_ok hn hb gu 10 f o (by omega) 33 (by omega)
/-- the node that a rule takes -/
theorem next_is (ru fi gu le : Int32) : ∀ j, (nextA n wo ne pr ru fi gu le j).1 = -1 ∨ ∃ k, k < j ∧ (nextA n wo ne pr ru fi gu le j).1 = nI k ∧ bt (nearM n ne fi gu) (nI k) = 1
  | 0 => Or.inl rfl
  | j + 1 => by
    have ih := next_is ru fi gu le j
    show (nextS n wo ne pr ru fi gu le j (nextA n wo ne pr ru fi gu le j)).1 = -1 ∨ _
    have old : ((nextA n wo ne pr ru fi gu le j).1 = -1 ∨ ∃ k, k < j ∧ (nextA n wo ne pr ru fi gu le j).1 = nI k ∧ bt (nearM n ne fi gu) (nI k) = 1) → ((nextA n wo ne pr ru fi gu le j).1 = -1 ∨ ∃ k, k < j + 1 ∧ (nextA n wo ne pr ru fi gu le j).1 = nI k ∧ bt (nearM n ne fi gu) (nI k) = 1) := fun h => h.imp id (fun ⟨k, h1, h2⟩ => ⟨k, by omega, h2⟩)
    show _ ∨ ∃ k, k < j + 1 ∧ (nextS n wo ne pr ru fi gu le j (nextA n wo ne pr ru fi gu le j)).1 = nI k ∧ _
    unfold nextS
    by_cases h1 : bt (nearM n ne fi gu) (nI j) = 1
    · rw [if_pos h1]
      split
      · split
        · exact Or.inr ⟨j, by omega, rfl, h1⟩
        · exact old ih
      · exact old ih
    · rw [if_neg h1]
      exact old ih
theorem next_neg (ru : Int32) (x : Ps) (hn : n ≤ 10) : nextM n wo ne pr ru x < 0 ↔ nextM n wo ne pr ru x = -1 := by
  constructor
  · intro h
    rcases next_is (n := n) (wo := wo) (ne := ne) (pr := pr) ru x.1 x.2.1 x.2.2.1 n with q | ⟨k, hk, e, -⟩
    · exact q
    · have e2 : nextM n wo ne pr ru x = nI k := e
      rw [e2] at h
      exact absurd h (nI_pos (by omega))
  · intro h
    rw [h]
    decide
theorem near_off2 {bu gu : Int32} {i : Nat} (hi : i < 32) (h : tb (nearM n ne bu gu) i = true) : tb gu i = false := by
  unfold nearM at h
  rw [tb_and, tb_and, tb_not _ hi, tb_not _ hi] at h
  cases q : tb gu i
  · rfl
  · rw [q] at h; simp at h
theorem next_more (ru : Int32) (x : Ps) (hn : n ≤ 10) (h : ¬ nextM n wo ne pr ru x < 0) : ∃ k, k < n ∧ nextM n wo ne pr ru x = nI k ∧ cntB x.2.1 n < cntB (x.2.1 ||| ((1 : Int32) <<< (nI k &&& 31))) n := by
  rcases next_is (n := n) (wo := wo) (ne := ne) (pr := pr) ru x.1 x.2.1 x.2.2.1 n with q | ⟨k, hk, e, hb⟩
  · exact absurd ((next_neg ru x hn).mpr q) h
  · refine ⟨k, hk, e, cntB_lt (i := k) (near_off2 (by omega) ((bt_1 (by omega)).mp hb)) ?_ n hk⟩
    rw [tb_shl k (by omega) k (by omega)]
    exact decide_eq_true rfl
theorem pick_ok (ru : Int32) (hn : n ≤ 10) : ∀ (d : Nat) (x : Ps), n - cntB x.2.1 n ≤ d → ∀ j, d < j → ∃ y : Ps, pickL n wo ne pr ru j x = some y ∧ y.1 = x.1
  | 0, x, hd, j, hj => by
    obtain ⟨i, rfl⟩ : ∃ i, j = i + 1 := ⟨j - 1, by omega⟩
    have : nextM n wo ne pr ru x < 0 := Decidable.byContradiction fun q => by
      obtain ⟨k, h1, h2, h3⟩ := next_more ru x hn q
      have h4 := cntB_le (x.2.1 ||| ((1 : Int32) <<< (nI k &&& 31))) n
      omega
    exact ⟨x, by rw [pickL, if_pos this], rfl⟩
  | d + 1, x, hd, j, hj => by
    obtain ⟨i, rfl⟩ : ∃ i, j = i + 1 := ⟨j - 1, by omega⟩
    by_cases q : nextM n wo ne pr ru x < 0
    · exact ⟨x, by rw [pickL, if_pos q], rfl⟩
    · obtain ⟨k, h1, h2, h3⟩ := next_more ru x hn q
      obtain ⟨y, hy, e⟩ := pick_ok ru hn d (guardM n pr (1 <<< (nextM n wo ne pr ru x &&& 31)) x) (by rw [h2]; show n - cntB (x.2.1 ||| _) n ≤ d; omega) i (by omega)
      exact ⟨y, by rw [pickL, if_neg q]; exact hy, e⟩
theorem pickOK (ru : Int32) (hn : n ≤ 10) : PickOK n wo ne pr ru := fun x => by
  obtain ⟨y, hy, -⟩ := pick_ok (wo := wo) (ne := ne) (pr := pr) ru hn 10 x (by omega) 33 (by omega)
  exact ⟨y, hy⟩
theorem pickG_fire (ru : Int32) (hn : n ≤ 10) (x : Ps) : (pickG n wo ne pr ru x).1 = x.1 := by
  obtain ⟨y, hy, e⟩ := pick_ok (wo := wo) (ne := ne) (pr := pr) ru hn 10 x (by omega) 33 (by omega)
  rw [pickG_some hy, e]
theorem live_ok (ru : Int32) (hn : n ≤ 10) (hb : ∀ k, k < n → below n (ne k)) : ∀ (d t : Nat) (x : Ps), n - cntB x.1 n ≤ d → ∀ j, d < j → ∃ y : Nat × Ps, liveL n wo ne pr ow ke' ru j t x = some y
  | d, t, x, hd, j, hj => by
    obtain ⟨i, rfl⟩ : ∃ i, j = i + 1 := ⟨j - 1, by omega⟩
    have hg : (pickG n wo ne pr ru (fillPs ow ke' (t + 1) x)).1 = x.1 := pickG_fire ru hn _
    by_cases q : nearM n ne (pickG n wo ne pr ru (fillPs ow ke' (t + 1) x)).1 (pickG n wo ne pr ru (fillPs ow ke' (t + 1) x)).2.1 = 0
    · exact ⟨_, by rw [liveL, if_pos q]⟩
    · have h1 := near_more hn hb q
      have h2 := cntB_le ((pickG n wo ne pr ru (fillPs ow ke' (t + 1) x)).1 ||| nearM n ne (pickG n wo ne pr ru (fillPs ow ke' (t + 1) x)).1 (pickG n wo ne pr ru (fillPs ow ke' (t + 1) x)).2.1) n
      rw [hg] at h1 h2
      cases d with
      | zero => omega
      | succ d =>
        obtain ⟨y, hy⟩ := live_ok ru hn hb d (t + 1) (sprM n ne (pickG n wo ne pr ru (fillPs ow ke' (t + 1) x))) (by show n - cntB ((pickG n wo ne pr ru (fillPs ow ke' (t + 1) x)).1 ||| _) n ≤ d; rw [hg]; omega) i (by omega)
        exact ⟨y, by rw [liveL, if_neg q]; exact hy⟩
theorem liveOK (ru : Int32) (hn : n ≤ 10) (hb : ∀ k, k < n → below n (ne k)) : LiveOK n wo ne pr ow ke' ru := fun fire => live_ok ru hn hb 10 0 _ (by show n - cntB fire n ≤ 10; omega) 33 (by omega)
end ENDS

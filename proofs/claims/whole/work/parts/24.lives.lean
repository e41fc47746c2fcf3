/-! a rule's whole course -/
section LIVE
variable {n : Nat} {wo wo' pr pr' ne ne' ow ow' : Row} {ke : Int32} {ke' : Bool} {ru : Int32}
def LiveR (n k : Nat) (wo' ne' pr' ow' : Row) (ke' : Bool) (ru : Int32) (st : Option (Nat × Ps)) (x : Cs) : Prop :=
  below n x.1 ∧ x.2.2.2.2.1 = false ∧ (x.2.2.2.2.2.1 = true → st = some (x.2.2.1, psC x) ∧ 1 ≤ x.2.2.1 ∧ x.2.2.1 ≤ k) ∧
  (¬ x.2.2.2.2.2.1 = true → x.2.2.1 = k ∧ liveL n wo' ne' pr' ow' ke' ru (33 - k) k (psC x) = st ∧ k ≤ cntB x.1 n)
theorem live_step (hn : n ≤ 10) (hr : 0 ≤ ru ∧ ru ≤ 2) (hwo : ∀ k, k < n → wo k = wo' k) (hpr : ∀ k, k < n → pr k = pr' k) (hne : ∀ k, k < n → ne k = ne' k) (hbl : ∀ k, k < n → below n (ne' k)) (ho : ∀ t, t < 8 → ow t = ow' (t + 1)) (hke : ke = 1 ↔ ke' = true)
    {k : Nat} {x : Cs} {st : Option (Nat × Ps)} (hk : k < 30) (h : LiveR n k wo' ne' pr' ow' ke' ru st x) :
    LiveR n (k + 1) wo' ne' pr' ow' ke' ru st (if x.2.2.2.2.2.1 = true ∨ x.2.2.2.2.1 = true then x else liveS wo pr ne ow ke ru x) := by
  obtain ⟨h1, h2, h3, h4⟩ := h
  by_cases hd : x.2.2.2.2.2.1 = true
  · rw [if_pos (Or.inl hd)]
    obtain ⟨e1, e2, e3⟩ := h3 hd
    exact ⟨h1, h2, fun _ => ⟨e1, e2, by omega⟩, fun q => absurd hd q⟩
  · rw [if_neg (fun q => q.elim hd (fun q => by rw [h2] at q; cases q))]
    obtain ⟨e1, e2, e3⟩ := h4 hd
    have hb0 : below n (openC ow ke x).1 := h1
    have hps : psC (openC ow ke x) = fillPs ow' ke' (k + 1) (psC x) := by
      show (x.1, x.2.1, moneyI ow ke (x.2.2.1 + 1) x.2.2.2.2.2.2, x.2.2.2.1) = (x.1, x.2.1, fillM ow' ke' (k + 1) x.2.2.2.2.2.2, x.2.2.2.1)
      rw [e1, fill_eq ho hke (by omega)]
    have hpick := rule_pick (ru := ru) hn hr hwo hpr hne hbl 10 (openC ow ke x) hb0 (by omega) 33 (by omega)
    rw [hps] at hpick
    have hG := pickG_some hpick
    have hkeep := ruleA_keep (wo := wo) (pr := pr) (ne := ne) (ru := ru) (openC ow ke x) 10
    have htick : (ruleA wo ne pr ru (openC ow ke x) 10).2.2.1 = k + 1 := by
      rw [ruleA_tick]
      show x.2.2.1 + 1 = k + 1
      rw [e1]
    unfold liveS
    generalize ruleA wo ne pr ru (openC ow ke x) 10 = z at *
    obtain ⟨k1, k2, k3⟩ := hkeep
    have k1 : z.1 = x.1 := k1
    have k2 : z.2.2.2.2.1 = false := k2.trans h2
    have hz : below n z.1 := by rw [k1]; exact h1
    have hun : liveL n wo' ne' pr' ow' ke' ru (33 - k) k (psC x) = if nearM n ne' z.1 z.2.1 = 0 then some (k + 1, sprM n ne' (psC z)) else liveL n wo' ne' pr' ow' ke' ru (33 - (k + 1)) (k + 1) (sprM n ne' (psC z)) := by
      rw [show 33 - k = (33 - (k + 1)) + 1 by omega, liveL, hG]
      rfl
    rw [e2] at hun
    unfold spreadC
    rw [if_neg (by rw [k2]; exact Bool.false_ne_true), thr_eq hn hne hz]
    by_cases q : nearM n ne' z.1 z.2.1 = 0
    · rw [if_pos q]
      rw [if_pos q] at hun
      refine ⟨below_or hz (below_thr hbl), k2, fun _ => ⟨?_, by show 1 ≤ z.2.2.1; omega, by show z.2.2.1 ≤ k + 1; omega⟩, fun w => absurd rfl w⟩
      rw [hun]
      show some (k + 1, sprM n ne' (psC z)) = some (z.2.2.1, _)
      rw [htick]
      rfl
    · rw [if_neg q]
      rw [if_neg q] at hun
      refine ⟨below_or hz (below_thr hbl), k2, fun w => absurd (show false = true from w) Bool.false_ne_true, fun _ => ⟨htick, hun.symm, ?_⟩⟩
      show k + 1 ≤ cntB (z.1 ||| nearM n ne' z.1 z.2.1) n
      have := near_more hn hbl q
      rw [k1] at this ⊢
      omega
theorem live_all (hn : n ≤ 10) (hr : 0 ≤ ru ∧ ru ≤ 2) (hwo : ∀ k, k < n → wo k = wo' k) (hpr : ∀ k, k < n → pr k = pr' k) (hne : ∀ k, k < n → ne k = ne' k) (hbl : ∀ k, k < n → below n (ne' k)) (ho : ∀ t, t < 8 → ow t = ow' (t + 1)) (hke : ke = 1 ↔ ke' = true)
    {fire : Int32} (hf : below n fire) : ∀ k, k ≤ 30 → LiveR n k wo' ne' pr' ow' ke' ru (liveL n wo' ne' pr' ow' ke' ru 33 0 (fire, 0, 0, 0)) (liveA wo pr ne ow ke ru fire k)
  | 0, _ => ⟨hf, rfl, fun q => absurd (show false = true from q) Bool.false_ne_true, fun _ => ⟨rfl, rfl, Nat.zero_le _⟩⟩
  | k + 1, hk => live_step hn hr hwo hpr hne hbl ho hke (by omega) (live_all hn hr hwo hpr hne hbl ho hke hf k (by omega))
/-- what the class's course and the reference's come to -/
theorem live_end (hn : n ≤ 10) (hr : 0 ≤ ru ∧ ru ≤ 2) (hwo : ∀ k, k < n → wo k = wo' k) (hpr : ∀ k, k < n → pr k = pr' k) (hne : ∀ k, k < n → ne k = ne' k) (hbl : ∀ k, k < n → below n (ne' k)) (ho : ∀ t, t < 8 → ow t = ow' (t + 1)) (hke : ke = 1 ↔ ke' = true)
    {fire : Int32} (hf : below n fire) {x : Cs} {y : Nat × Ps} (hx : x = liveA wo pr ne ow ke ru fire 20) (hy : liveL n wo' ne' pr' ow' ke' ru 33 0 (fire, 0, 0, 0) = some y) : y = (x.2.2.1, psC x) := by
  have h := live_all (ru := ru) hn hr hwo hpr hne hbl ho hke hf 20 (by omega)
  rw [← hx] at h
  obtain ⟨h1, h2, h3, h4⟩ := h
  by_cases hd : x.2.2.2.2.2.1 = true
  · exact Option.some.inj (hy.symm.trans (h3 hd).1)
  · have a := (h4 hd).2.2
    have b := cntB_le x.1 n
    omega
theorem live_ans (hn : n ≤ 10) (hwo : ∀ k, k < n → wo k = wo' k) {x : Cs} {y : Nat × Ps} {fire what : Int32} (h : (0 ≤ ru ∧ ru ≤ 2) → (1 ≤ fire ∧ fire ≤ allI (nI n)) → y = (x.2.2.1, psC x)) : liveO (nI n) wo x ru fire what = liveR n wo' y ru fire what := by
  unfold liveO liveR
  by_cases hr : 0 ≤ ru ∧ ru ≤ 2
  · rw [if_pos hr, if_pos hr]
    by_cases hf : 1 ≤ fire ∧ fire ≤ allI (nI n)
    · rw [if_pos hf, if_pos hf, h hr hf, saved_eq hn hwo]
      rfl
    · rw [if_neg hf, if_neg hf]
  · rw [if_neg hr, if_neg hr]
end LIVE

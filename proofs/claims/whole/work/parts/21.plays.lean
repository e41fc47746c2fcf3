theorem nI_nz {t : Nat} (h : 1 ≤ t) (ht : t < 2 ^ 31) : ¬ nI t = 0 := fun q => by
  have := nz_le (t := t) (by rw [q]; exact Int32.le_refl _) ht
  omega
theorem law_eq {pr pr' : Row} {n : Nat} (hn : n ≤ 10) (hpr : ∀ k, k < n → pr k = pr' k) {v bu gu mo : Int32} (hv : 0 ≤ v) : (v &&& (freeI (nI n) bu gu ^^^ (-1)) = 0 ∧ sumI pr v 10 ≤ mo) ↔ (v ≤ allI (nI n) ∧ v &&& (bu ||| gu) = 0 ∧ sumM pr' v n ≤ mo) := by
  constructor
  · rintro ⟨h1, h2⟩
    have h3 := (law_bits hn hv).mp h1
    refine ⟨h3.1, h3.2, ?_⟩
    rw [← sum_ten hn hpr ((le_all hn hv).mp h3.1)]
    exact h2
  · rintro ⟨h1, h2, h3⟩
    refine ⟨(law_bits hn hv).mpr ⟨h1, h2⟩, ?_⟩
    rw [sum_ten hn hpr ((le_all hn hv).mp h1)]
    exact h3
/-- a course of the class and a play of the reference, side by side -/
def PlayR (n k : Nat) (x : Cs) (y : Pm) : Prop :=
  x.1 = y.1 ∧ x.2.1 = y.2.1 ∧ x.2.2.2.1 = y.2.2.2.1 ∧ x.2.2.2.2.1 = y.2.2.2.2.1 ∧ x.2.2.2.2.2.2 = y.2.2.1 ∧ below n x.1 ∧
  ((x.2.2.2.2.2.1 = true ∨ x.2.2.2.2.1 = true) → y.2.2.2.2.2 = nI x.2.2.1 ∧ 1 ≤ x.2.2.1 ∧ x.2.2.1 ≤ k) ∧
  (¬ (x.2.2.2.2.2.1 = true ∨ x.2.2.2.2.1 = true) → y.2.2.2.2.2 = 0 ∧ x.2.2.1 = k ∧ k ≤ cntB x.1 n)
section PLAY
variable {n : Nat} {wo wo' pr pr' ne ne' ow ow' pl pl' : Row} {ke : Int32} {ke' : Bool}
theorem play_set (hn : n ≤ 10) (hpr : ∀ k, k < n → pr k = pr' k) (hne : ∀ k, k < n → ne k = ne' k) (hbl : ∀ k, k < n → below n (ne' k)) (ho : ∀ t, t < 8 → ow t = ow' (t + 1)) (hke : ke = 1 ↔ ke' = true)
    {b g c mo oa v : Int32} {t : Nat} (h6 : below n b) (ht : t ≤ cntB b n) (hv : 0 ≤ v) : PlayR n (t + 1) (spreadC ne (putSetC (nI n) pr v (openC ow ke (b, g, t, c, false, false, mo)))) (playS2 n pr' ne' (t + 1) v (fillM ow' ke' (t + 1) mo) (b, g, mo, c, false, oa)) := by
  have hm : moneyI ow ke (t + 1) mo = fillM ow' ke' (t + 1) mo := fill_eq ho hke (by omega) mo
  have hl := law_eq (bu := b) (gu := g) (mo := fillM ow' ke' (t + 1) mo) hn hpr hv
  unfold putSetC openC playS2
  dsimp only
  rw [hm]
  by_cases hw : v ≤ allI (nI n) ∧ v &&& (b ||| g) = 0 ∧ sumM pr' v n ≤ fillM ow' ke' (t + 1) mo
  · rw [if_pos (hl.mpr hw), if_pos hw]
    have hs := sum_ten hn hpr ((le_all hn hv).mp hw.1)
    unfold payC spreadC
    dsimp only
    rw [if_neg (by decide), hs, thr_eq hn hne h6]
    by_cases hz : nearM n ne' b (g ||| v) = 0
    · rw [if_pos hz, if_neg (fun q => q hz)]
      exact ⟨rfl, rfl, rfl, rfl, rfl, below_or h6 (below_thr hbl), fun _ => ⟨rfl, by show 1 ≤ t + 1; omega, Nat.le_refl _⟩, fun q => absurd (Or.inl rfl) q⟩
    · rw [if_neg hz, if_pos hz]
      refine ⟨rfl, rfl, rfl, rfl, rfl, below_or h6 (below_thr hbl), fun q => absurd q (by simp), fun _ => ⟨rfl, rfl, ?_⟩⟩
      show t + 1 ≤ cntB (b ||| nearM n ne' b (g ||| v)) n
      have := near_more hn hbl hz
      omega
  · rw [if_neg (fun q => hw (hl.mp q)), if_neg hw]
    unfold badC spreadC
    dsimp only
    rw [if_pos rfl]
    exact ⟨rfl, rfl, rfl, rfl, rfl, h6, fun _ => ⟨rfl, by show 1 ≤ t + 1; omega, Nat.le_refl _⟩, fun q => absurd (Or.inr rfl) q⟩
theorem play_step (hn : n ≤ 10) (hpr : ∀ k, k < n → pr k = pr' k) (hne : ∀ k, k < n → ne k = ne' k) (hbl : ∀ k, k < n → below n (ne' k)) (ho : ∀ t, t < 8 → ow t = ow' (t + 1)) (hke : ke = 1 ↔ ke' = true)
    (hpl : ∀ t, t < 8 → pl t = pl' (t + 1) ∧ 0 ≤ pl' (t + 1)) {k : Nat} {x : Cs} {y : Pm} (hk : k < 30) (h : PlayR n k x y) :
    PlayR n (k + 1) (if x.2.2.2.2.2.1 = true ∨ x.2.2.2.2.1 = true then x else planS (nI n) pr ne ow pl ke (k + 1) x) (if y.2.2.2.2.2 = 0 then playS n pr' ne' ow' pl' ke' (k + 1) y else y) := by
  obtain ⟨b, g, t, c, bd, ov, mo⟩ := x
  obtain ⟨f, gu, le, cs, ba, oa⟩ := y
  obtain ⟨h1, h2, h3, h4, h5, h6, h7, h8⟩ := h
  dsimp only at h1 h2 h3 h4 h5 h6 h7 h8 ⊢
  subst h1; subst h2; subst h3; subst h4; subst h5
  by_cases hd : ov = true ∨ bd = true
  · obtain ⟨e1, e2, e3⟩ := h7 hd
    rw [if_pos hd, if_neg (by rw [e1]; exact nI_nz e2 (by omega))]
    exact ⟨rfl, rfl, rfl, rfl, rfl, h6, fun _ => ⟨e1, e2, by show t ≤ k + 1; omega⟩, fun q => absurd hd q⟩
  · obtain ⟨e1, e2, e3⟩ := h8 hd
    rw [if_neg hd, if_pos e1]
    have hov : ov = false := by cases ov with | false => rfl | true => exact absurd (Or.inl rfl) hd
    have hbd : bd = false := by cases bd with | false => rfl | true => exact absurd (Or.inr rfl) hd
    subst hov; subst hbd; subst e2
    unfold planS playS
    by_cases h9 : t + 1 ≤ 8
    · rw [if_pos h9, if_pos h9]
      have hq := hpl t (by omega)
      rw [show t + 1 - 1 = t by omega, hq.1]
      exact play_set hn hpr hne hbl ho hke h6 e3 hq.2
    · rw [if_neg h9, if_neg h9]
      exact play_set hn hpr hne hbl ho hke h6 e3 (by decide)
theorem play_all (hn : n ≤ 10) (hpr : ∀ k, k < n → pr k = pr' k) (hne : ∀ k, k < n → ne k = ne' k) (hbl : ∀ k, k < n → below n (ne' k)) (ho : ∀ t, t < 8 → ow t = ow' (t + 1)) (hke : ke = 1 ↔ ke' = true)
    (hpl : ∀ t, t < 8 → pl t = pl' (t + 1) ∧ 0 ≤ pl' (t + 1)) {fire : Int32} (hf : below n fire) : ∀ k, k ≤ 30 → PlayR n k (planA (nI n) pr ne ow pl ke fire k) (playA n pr' ne' ow' pl' ke' fire k)
  | 0, _ => ⟨rfl, rfl, rfl, rfl, rfl, hf, fun q => absurd q (by simp [planA, begC]), fun _ => ⟨rfl, rfl, Nat.zero_le _⟩⟩
  | k + 1, hk => play_step hn hpr hne hbl ho hke hpl (by omega) (play_all hn hpr hne hbl ho hke hpl hf k (by omega))
theorem play_end (hn : n ≤ 10) (hpr : ∀ k, k < n → pr k = pr' k) (hne : ∀ k, k < n → ne k = ne' k) (hbl : ∀ k, k < n → below n (ne' k)) (ho : ∀ t, t < 8 → ow t = ow' (t + 1)) (hke : ke = 1 ↔ ke' = true)
    (hpl : ∀ t, t < 8 → pl t = pl' (t + 1) ∧ 0 ≤ pl' (t + 1)) {fire : Int32} (hf : below n fire) {x : Cs} {y : Pm} (hx : x = planA (nI n) pr ne ow pl ke fire 20) (hy : y = playA n pr' ne' ow' pl' ke' fire 30) : PlayR n 20 x y ∧ (x.2.2.2.2.2.1 = true ∨ x.2.2.2.2.1 = true) := by
  have h := play_all hn hpr hne hbl ho hke hpl hf 20 (by omega)
  have hd : (planA (nI n) pr ne ow pl ke fire 20).2.2.2.2.2.1 = true ∨ (planA (nI n) pr ne ow pl ke fire 20).2.2.2.2.1 = true := by
    refine Classical.byContradiction fun q => ?_
    have h1 := (h.2.2.2.2.2.2.2 q).2.2
    have h2 := cntB_le (planA (nI n) pr ne ow pl ke fire 20).1 n
    omega
  have h3 := h.2.2.2.2.2.2.1 hd
  have e : playA n pr' ne' ow' pl' ke' fire (20 + 10) = playA n pr' ne' ow' pl' ke' fire 20 := playA_stop (by rw [h3.1]; exact nI_nz h3.2.1 (by omega)) 10
  rw [hx, hy, e]
  exact ⟨h, hd⟩
theorem fire_below (hn : n ≤ 10) {fire : Int32} (h : 1 ≤ fire ∧ fire ≤ allI (nI n)) : below n fire := (le_all hn (Int32.le_trans (by decide) h.1)).mp h.2
theorem play_ans (hn : n ≤ 10) (hwo : ∀ k, k < n → wo k = wo' k) {x : Cs} {y : Pm} {fire what : Int32} (h : (1 ≤ fire ∧ fire ≤ allI (nI n)) → PlayR n 20 x y ∧ (x.2.2.2.2.2.1 = true ∨ x.2.2.2.2.1 = true)) : playO (nI n) wo x fire what = playR n wo' y fire what := by
  unfold playO playR
  by_cases hf : 1 ≤ fire ∧ fire ≤ allI (nI n)
  · rw [if_pos hf, if_pos hf]
    obtain ⟨⟨h1, h2, h3, h4, h5, h6, h7, h8⟩, hd⟩ := h hf
    rw [h4, h1, h2, h3, (h7 hd).1, saved_eq hn hwo]
  · rw [if_neg hf, if_neg hf]
theorem burns_ans {x : Cs} {y : Pm} {fire tick : Int32} {k : Nat} (h : (1 ≤ fire ∧ fire ≤ allI (nI n)) → (0 ≤ tick ∧ tick ≤ 20) → PlayR n k x y) : burnsO (nI n) x fire tick = burnsR n y fire tick := by
  unfold burnsO burnsR
  by_cases hf : 1 ≤ fire ∧ fire ≤ allI (nI n)
  · rw [if_pos hf, if_pos hf]
    by_cases ht : 0 ≤ tick ∧ tick ≤ 20
    · rw [if_pos ht, if_pos ht, (h hf ht).1]
    · rw [if_neg ht, if_neg ht]
  · rw [if_neg hf, if_neg hf]
end PLAY

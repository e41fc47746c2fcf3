/-! answers of the search: best, take, least, share, worst, mean -/
def S3 (x y : Ss) : Prop := x.1 = y.1 ∧ x.2.1 = y.2.1 ∧ x.2.2.2.1 = y.2.2.2.1
section LEFT
variable {n : Int32} {wo pr ne ow ow2 : Row} {ke bd : Int32}
theorem judge_3 {t : Nat} {bu gu : Int32} {x y : Ss} (h : S3 x y) : S3 (judgeF n wo ne t bu gu x) (judgeF n wo ne t bu gu y) := by
  obtain ⟨h1, h2, h3⟩ := h
  unfold judgeF
  rw [h2]
  split
  · exact ⟨h1, rfl, h3⟩
  · exact ⟨h1, h2, h3⟩
theorem look_3 {rc rc2 : Nat → Int32 → Int32 → Int32 → Ss → Ss} (ho : ∀ t, t < 8 → ow t = ow2 t) (hr : ∀ t bu gu m x y, S3 x y → S3 (rc t bu gu m x) (rc2 t bu gu m y)) {t : Nat} {bu gu set left : Int32} {x y : Ss} (h : S3 x y) : S3 (lookF rc n wo ne ow ke bd t bu gu set left x) (lookF rc2 n wo ne ow2 ke bd t bu gu set left y) := by
  obtain ⟨h1, h2, h3⟩ := h
  have hm : moneyI ow ke (t + 1) left = moneyI ow2 ke (t + 1) left := by
    unfold moneyI
    rw [ho _ (by omega)]
  unfold lookF
  rw [hm, h1]
  split
  · split
    · exact hr _ _ _ _ _ _ ⟨rfl, h2, h3⟩
    · exact judge_3 ⟨rfl, h2, h3⟩
  · exact ⟨rfl, h2, rfl⟩
theorem seekL_3 {lk lk2 : Int32 → Int32 → Ss → Ss} {free money : Int32} (hr : ∀ set left x y, S3 x y → S3 (lk set left x) (lk2 set left y)) : ∀ (F : Nat) (set : Int32) (x y : Ss), S3 x y → S3 (seekL lk pr free money F set x) (seekL lk2 pr free money F set y)
  | 0, _, _, _, h => h
  | F + 1, set, x, y, h => by
    rw [seekL, seekL, h.2.2]
    split
    · exact h
    · split
      · split
        · exact h
        · exact seekL_3 hr F _ _ _ h
      · split
        · exact hr _ _ _ _ h
        · exact seekL_3 hr F _ _ _ (hr _ _ _ _ h)
theorem seekF_3 (ho : ∀ t, t < 8 → ow t = ow2 t) : ∀ (d t : Nat) (bu gu m : Int32) (x y : Ss), S3 x y → S3 (seekF n wo pr ne ow ke bd d t bu gu m x) (seekF n wo pr ne ow2 ke bd d t bu gu m y)
  | 0, _, _, _, _, _, _, h => h
  | d + 1, t, bu, gu, m, x, y, h => by
    rw [seekF, seekF]
    generalize (1024 : Nat) = F
    refine seekL_3 ?_ F 0 x y h
    intro set left x2 y2 h2
    show S3 (lookF (seekF n wo pr ne ow ke bd d) n wo ne ow ke bd t bu gu set left x2) (lookF (seekF n wo pr ne ow2 ke bd d) n wo ne ow2 ke bd t bu gu set left y2)
    exact look_3 ho (fun t bu gu m x y h3 => seekF_3 ho d t bu gu m x y h3) h2
end LEFT
/-- what a search saves, whatever was left over -/
def savL (n : Int32) (wo pr ne ow : Row) (ke bd : Int32) (d : Nat) (fire : Int32) : Int32 := (seekF n wo pr ne ow ke bd (d + 1) 1 fire 0 (moneyI ow ke 1 0) (0, -1, 0, false, fun _ => 0, fun _ => 0)).2.1
theorem savL_any {n : Int32} {wo pr ne ow ow2 : Row} {ke bd : Int32} {d : Nat} (ho : ∀ t, t < 8 → ow2 t = ow t) (fire ov : Int32) (way kept : Row) : (seekF n wo pr ne ow2 ke bd (d + 1) 1 fire 0 (moneyI ow2 ke 1 0) (0, -1, ov, false, way, kept)).2.1 = savL n wo pr ne ow ke bd d fire := by
  have hm : moneyI ow2 ke 1 0 = moneyI ow ke 1 0 := by
    unfold moneyI
    rw [ho _ (by omega)]
  rw [hm]
  have h := seekF_3 (n := n) (wo := wo) (pr := pr) (ne := ne) (ke := ke) (bd := bd) ho (d + 1) 1 fire 0 (moneyI ow ke 1 0) ((0, -1, ov, false, way, kept) : Ss) ((0, -1, 0, false, fun _ => 0, fun _ => 0) : Ss) ⟨rfl, rfl, rfl⟩
  unfold savL
  exact h.2.1
theorem cpy8 (ow ov : Row) : ∀ t, t < 8 → va_cpy ow ov 0 0 8 t = ow t := fun t ht => by rw [pk_cpy_in (Nat.zero_le _) (by omega), Nat.zero_add, Nat.sub_zero]
/-- what both sides know of the net and the purses -/
def SNet (n b : Nat) (pr pr' ne ne' wo wo' : Row) (bd : Int32) (p q : Nat → Nat) : Prop :=
  1 ≤ n ∧ n ≤ 10 ∧ (∀ k, k < n → pr k = pr' k) ∧ (∀ k, k < n → ne k = ne' k) ∧ (∀ k, k < n → wo k = wo' k) ∧ (∀ k, k < n → below n (ne' k)) ∧ (∀ k, k < n → pr' k = nI (p k)) ∧ (∀ k, k < n → p k ≤ 9) ∧ (∀ k, k < n → wo' k = nI (q k)) ∧ (∀ k, k < n → q k ≤ 9) ∧ bd = nI b ∧ 50 ≤ b ∧ b ≤ 1000
def SPur (ow ow' : Row) (ke : Int32) (ke' : Bool) (o : Nat → Nat) : Prop := (∀ t, t < 8 → ow t = ow' (t + 1)) ∧ (∀ t, 1 ≤ t → t ≤ 8 → ow' t = nI (o t) ∧ o t ≤ 20) ∧ (ke = 1 ↔ ke' = true)
section ANS
variable {n b : Nat} {pr pr' ne ne' wo wo' ow ow' : Row} {ke : Int32} {ke' : Bool} {bd : Int32} {p q o : Nat → Nat} {d : Nat}
theorem SNet.hyp (N : SNet n b pr pr' ne ne' wo wo' bd p q) (P : SPur ow ow' ke ke' o) (pz : Row) : SHyp n b pr pr' ne ne' wo wo' ow ow' ke ke' bd (fillP n pr' pz (allN n + 1)) p q o := by
  obtain ⟨-, hn, hpr, hne, hwo, hbl, hp, hp9, hq, hq9, hbd, hb1, hb2⟩ := N
  obtain ⟨ho, hoN, hke⟩ := P
  refine ⟨hn, hpr, hne, hwo, hbl, hp, hp9, hq, hq9, ho, hoN, hke, hbd, hb1, hb2, fun j hj => ?_⟩
  unfold fillP
  rw [if_pos (by omega)]
theorem SPur.cpy (P : SPur ow ow' ke ke' o) (ov : Row) : SPur (va_cpy ow ov 0 0 8) ow' ke ke' o := ⟨fun t ht => (cpy8 ow ov t ht).trans (P.1 t ht), P.2.1, P.2.2⟩
/-- the reference's search comes to what the class's has -/
theorem seek_all (N : SNet n b pr pr' ne ne' wo wo' bd p q) (P : SPur ow ow' ke ke' o) (hd : 1 + d = 8) {fire : Int32} (hf : below n fire) {ov : Int32} {way kept : Row} {y : Ss} (hy : y = seekF (nI n) wo pr ne ow ke bd (d + 1) 1 fire 0 (moneyI ow ke 1 0) (0, -1, ov, false, way, kept)) :
    SeekAll n bd ow' ke' pr' ne' wo' fire y.2.1 y.1 y.2.2.2.1 y.2.2.1 (fun t => y.2.2.2.2.2 (t - 1)) ∧ (∃ Q, Q ≤ 90 ∧ y.2.1 = nI Q) ∧ ∀ i, i < 8 → 0 ≤ y.2.2.2.2.2 i := by
  have key := fun (pz tr fa ga la bz : Row) => seek_top (N.hyp P pz) hd hf ov way kept tr fa ga la bz
  rw [← hy] at key
  refine ⟨fun pz tr fa ga la bz => ?_, ?_⟩
  · obtain ⟨Y, h1, ⟨-, r2, r3, r4, r5⟩, h3⟩ := key pz tr fa ga la bz
    rcases r5 with r5 | ⟨-, r6, r7⟩
    · exact absurd r5 h3
    · refine ⟨Y, h1, r4, r2, r3, r6, fun t h1 h8 => ?_⟩
      have := (r7 (t - 1) (by omega)).1
      rw [show t - 1 + 1 = t by omega] at this
      exact this
  · obtain ⟨Y, h1, ⟨-, r2, r3, r4, r5⟩, h3⟩ := key (fun _ => 0) (fun _ => 0) (fun _ => 0) (fun _ => 0) (fun _ => 0) (fun _ => 0)
    rcases r5 with r5 | ⟨r5, r6, r7⟩
    · exact absurd r5 h3
    · exact ⟨r5, fun i hi => (r7 i hi).2⟩
theorem best_ans {y : Ss} {fire what : Int32} : bestO (nI n) y fire what = bestR n y.2.1 y.1 y.2.2.2.1 y.2.2.1 (fun t => y.2.2.2.2.2 (t - 1)) fire what := by
  unfold bestO bestR
  by_cases hf : 1 ≤ fire ∧ fire ≤ allI (nI n)
  · rw [if_pos hf, if_pos hf]
    by_cases hw : 0 ≤ what ∧ what ≤ 11
    · rw [if_pos hw, if_pos hw]
      by_cases h0 : what = 0
      · rw [if_pos h0, if_pos h0]
      · rw [if_neg h0, if_neg h0]
        by_cases h1 : what = 1
        · rw [if_pos h1, if_pos h1]
        · rw [if_neg h1, if_neg h1]
          by_cases h2 : what = 2
          · rw [if_pos h2, if_pos h2]
          · rw [if_neg h2, if_neg h2]
            by_cases h3 : what = 3
            · rw [if_pos h3, if_pos h3]
            · rw [if_neg h3, if_neg h3]
              obtain ⟨t, ht, e1, e2⟩ := what_ix hw h0 h1 h2 h3
              rw [e1, e2, nI_clamp (by omega)]
    · rw [if_neg hw, if_neg hw]
  · rw [if_neg hf, if_neg hf]
theorem least_run {wl : Nat → Int32} {wt : Int32} : ∀ (f v : Nat), v + f ≤ 21 → leastA wl wt v = -1 → leaF wl wt f v = leastA wl wt (v + f)
  | 0, v, _, h => h.symm
  | f + 1, v, hv, h => by
    have e : leastA wl wt (v + 1) = if wt ≤ wl v then nI v else -1 := by
      show (if leastA wl wt v < 0 then (if wt ≤ wl v then nI v else -1) else leastA wl wt v) = _
      rw [h, if_pos (by decide)]
    rw [leaF, show v + (f + 1) = (v + 1) + f by omega]
    by_cases z : wl v < wt
    · rw [if_pos z]
      exact least_run f (v + 1) (by omega) (by rw [e, if_neg (i_nle z)])
    · rw [if_neg z]
      have e2 : leastA wl wt (v + 1) = nI v := by rw [e, if_pos (i_lt z)]
      rw [leastA_stop (by rw [e2]; exact nI_pos (by omega)), e2]
theorem leastA_congr {R R2 : Nat → Int32} {wt : Int32} : ∀ k, (∀ v, v < k → R v = R2 v) → leastA R wt k = leastA R2 wt k
  | 0, _ => rfl
  | k + 1, h => by
    show (if leastA R wt k < 0 then (if wt ≤ R k then nI k else -1) else leastA R wt k) = (if leastA R2 wt k < 0 then (if wt ≤ R2 k then nI k else -1) else leastA R2 wt k)
    rw [leastA_congr k (fun v hv => h v (by omega)), h k (by omega)]
def evL (n : Int32) (wo pr ne : Row) (ke bd : Int32) (d : Nat) (fire : Int32) (v : Nat) : Int32 := savL n wo pr ne (fun _ => nI v) ke bd d fire
theorem ev_any {n : Int32} {wo pr ne : Row} {ke bd : Int32} {d : Nat} (fire : Int32) (v : Nat) (q : Ss) (oo : Row) : (seekF n wo pr ne (fillF oo (nI v) 8) ke bd (d + 1) 1 fire 0 (moneyI (fillF oo (nI v) 8) ke 1 0) (0, -1, q.2.2.1, false, q.2.2.2.2.1, q.2.2.2.2.2)).2.1 = evL n wo pr ne ke bd d fire v := savL_any (fun t ht => if_pos ht) fire _ _ _
theorem least_all (N : SNet n b pr pr' ne ne' wo wo' bd p q) (hke : ke = 1 ↔ ke' = true) (hd : 1 + d = 8) {fire : Int32} (hf : below n fire) : LeastAll n bd ow' ke' pr' ne' wo' fire (evL (nI n) wo pr ne ke bd d fire) := fun v hv => by
  have P : SPur (fun _ => nI v) (evenF v ow' 8) ke ke' (fun _ => v) := ⟨fun t ht => by unfold evenF; rw [if_pos (by omega)], fun t h1 h8 => ⟨by unfold evenF; rw [if_pos ⟨h1, h8⟩], hv⟩, hke⟩
  exact ⟨_, _, _, _, (seek_all N P hd hf (ov := 0) (way := fun _ => 0) (kept := fun _ => 0) rfl).1⟩
theorem least_ans {wl : Nat → Int32} {fire wt : Int32} : leastO (nI n) wl fire wt = leastR n wl fire wt := by
  unfold leastO leastR
  rw [least_run 21 0 (by omega) rfl]
/-- saved by a rule -/
theorem part_nat2 (N : SNet n b pr pr' ne ne' wo wo' bd p q) (f : Int32) : ∃ Q, Q ≤ 90 ∧ savedI (nI n) wo f = nI Q ∧ savedM n wo' f = nI Q := by
  obtain ⟨-, hn, -, -, hwo, -, -, -, hq, hq9, -⟩ := N
  obtain ⟨Q, h1, h2⟩ := saved_nat hn hq hq9 f
  exact ⟨Q, h1, by rw [saved_eq hn hwo, h2], h2⟩
theorem share_ans {P B : Nat} (hP : P ≤ 90) (hB : B ≤ 90) {wo' : Row} {y : Nat × Ps} (hy : savedM n wo' y.2.1 = nI P) (ru fire what : Int32) : (gcdL 30 (upS n wo' y (nI B)) (loS (nI B)) = some (nI (Nat.gcd (if B = 0 then 1 else P) (if B = 0 then 1 else B))) ∧ nI (Nat.gcd (if B = 0 then 1 else P) (if B = 0 then 1 else B)) ≠ 0) ∧
    shareO (nI n) (nI P) (nI B) ru fire what = shareR n (upS n wo' y (nI B)) (loS (nI B)) (nI (Nat.gcd (if B = 0 then 1 else P) (if B = 0 then 1 else B))) ru fire what := by
  have e1 : upS n wo' y (nI B) = nI (if B = 0 then 1 else P) := by
    unfold upS
    by_cases z : B = 0
    · rw [if_pos z, if_pos (by rw [z]; rfl)]; rfl
    · rw [if_neg z, if_neg (nI_ne0 (by omega) (by omega)), hy]
  have e2 : loS (nI B) = nI (if B = 0 then 1 else B) := by
    unfold loS
    by_cases z : B = 0
    · rw [if_pos z, if_pos (by rw [z]; rfl)]; rfl
    · rw [if_neg z, if_neg (nI_ne0 (by omega) (by omega))]
  rw [e1, e2]
  obtain ⟨f1, f2, f3⟩ := frac_part (u := if B = 0 then 1 else P) (l := if B = 0 then 1 else B) (by split <;> omega) (by split <;> omega) (by split <;> omega) what
  refine ⟨⟨f2, f3⟩, ?_⟩
  unfold shareO shareR
  by_cases hr : 0 ≤ ru ∧ ru ≤ 2
  · rw [if_pos hr, if_pos hr]
    by_cases hf : 1 ≤ fire ∧ fire ≤ allI (nI n)
    · rw [if_pos hf, if_pos hf]
      by_cases hw : 0 ≤ what ∧ what ≤ 1
      · rw [if_pos hw, if_pos hw, ← f1]
        by_cases z : B = 0
        · rw [if_neg (by rw [z]; decide), if_pos z, if_pos z]
          have h1 : (nI 1).toInt64 = lN 1 := nI_l (by omega)
          rw [h1, frac_nat (by omega) (by omega) (by omega), lN_i]
          split <;> rfl
        · rw [if_pos (show (0 : Int32) < nI B from (nI_ltI (a := 0) (b := B) (by omega) (by omega)).mpr (by omega)), if_neg z, if_neg z]
      · rw [if_neg hw, if_neg hw]
    · rw [if_neg hf, if_neg hf]
  · rw [if_neg hr, if_neg hr]
theorem worst_run {pa wl U B : Nat → Int32} {m : Nat} (hm : m ≤ 10) (h : ∀ k, k < m → ∃ P B0 : Nat, P ≤ 90 ∧ B0 ≤ 90 ∧ pa k = nI P ∧ wl k = nI B0 ∧ U k = (if B0 = 0 then 1 else nI P) ∧ B k = (if B0 = 0 then 1 else nI B0)) : ∀ k, k ≤ m → 1 ≤ k → worA pa wl k = worstA U B k ∧ ¬ (worstA U B k).1 < 0
  | 0, _, h1 => by omega
  | k + 1, hk, _ => by
    obtain ⟨P, B0, hP, hB, e1, e2, e3, e4⟩ := h k (by omega)
    show worS pa wl k (worA pa wl k) = (if (worstA U B k).1 < 0 ∨ U k * (worstA U B k).2.2 < (worstA U B k).2.1 * B k then (nI k, U k, B k) else worstA U B k) ∧ ¬ (if (worstA U B k).1 < 0 ∨ U k * (worstA U B k).2.2 < (worstA U B k).2.1 * B k then (nI k, U k, B k) else worstA U B k).1 < 0
    have hpos : ¬ nI k < 0 := nI_pos (by omega)
    unfold worS
    rw [e1, e2, e3, e4]
    by_cases hk0 : k = 0
    · subst hk0
      have hs : (worstA U B 0).1 < 0 := show (-1 : Int32) < 0 by decide
      rw [if_pos (Or.inl hs)]
      refine ⟨?_, hpos⟩
      by_cases z : B0 = 0
      · rw [if_neg (by rw [z]; decide), if_pos (show nI 0 = 0 from rfl), if_pos z, if_pos z]
      · rw [if_pos (show (0 : Int32) < nI B0 from (nI_ltI (a := 0) (b := B0) (by omega) (by omega)).mpr (by omega)), if_pos (show nI 0 = 0 from rfl), if_neg z, if_neg z]
    · obtain ⟨i1, i2⟩ := worst_run hm h k (by omega) (by omega)
      rw [i1]
      have hkn : ¬ nI k = 0 := nI_ne0 (by omega) (by omega)
      by_cases z : B0 = 0
      · rw [if_neg (by rw [z]; decide), if_neg hkn, if_pos z, if_pos z]
        by_cases w : 1 * (worstA U B k).2.2 < (worstA U B k).2.1 * 1
        · rw [if_pos w, if_pos (Or.inr w)]
          exact ⟨rfl, hpos⟩
        · rw [if_neg w, if_neg (fun g => g.elim i2 w)]
          exact ⟨rfl, i2⟩
      · rw [if_pos (show (0 : Int32) < nI B0 from (nI_ltI (a := 0) (b := B0) (by omega) (by omega)).mpr (by omega)), if_neg hkn, if_neg z, if_neg z]
        by_cases w : nI P * (worstA U B k).2.2 < (worstA U B k).2.1 * nI B0
        · rw [if_pos w, if_pos (Or.inr w)]
          exact ⟨rfl, hpos⟩
        · rw [if_neg w, if_neg (fun g => g.elim i2 w)]
          exact ⟨rfl, i2⟩
theorem mean_sum {pa G : Nat → Int32} {g : Nat → Nat} {n : Nat} (hn : n ≤ 10) (hg : ∀ k, k < n → pa k = nI (g k) ∧ G k = nI (g k) ∧ g k ≤ 90) {st : Int32} (hst : below n st) : ∃ U, U ≤ 900 ∧ meaA pa st 10 = nI U ∧ meanA G st n = nI U := by
  have h1 : ∀ k, k ≤ n → ∃ U, U ≤ 90 * k ∧ meaA pa st k = nI U ∧ meanA G st k = nI U := by
    intro k
    induction k with
    | zero => intro _; exact ⟨0, Nat.le_refl _, rfl, rfl⟩
    | succ k ih =>
      intro hk
      obtain ⟨U, u1, u2, u3⟩ := ih (by omega)
      obtain ⟨g1, g2, g3⟩ := hg k (by omega)
      show ∃ W, W ≤ 90 * (k + 1) ∧ (if ¬ bt st (nI k) = 0 then meaA pa st k + pa k else meaA pa st k) = nI W ∧ (if bt st (nI k) = 1 then meanA G st k + G k else meanA G st k) = nI W
      by_cases q : tb st k = true
      · rw [if_pos ((bt_n0 (by omega)).mpr q), if_pos ((bt_1 (by omega)).mpr q), u2, u3, g1, g2, nI_add]
        exact ⟨U + g k, by omega, rfl, rfl⟩
      · rw [if_neg (fun z => q ((bt_n0 (by omega)).mp z)), if_neg (fun z => q ((bt_1 (by omega)).mp z)), u2, u3]
        exact ⟨U, by omega, rfl, rfl⟩
  obtain ⟨U, u1, u2, u3⟩ := h1 n (Nat.le_refl _)
  have up : ∀ j, n + j ≤ 10 → meaA pa st (n + j) = meaA pa st n := by
    intro j
    induction j with
    | zero => intro _; rfl
    | succ j ih =>
      intro hj
      show (if ¬ bt st (nI (n + j)) = 0 then meaA pa st (n + j) + pa (n + j) else meaA pa st (n + j)) = _
      rw [if_neg (fun z => absurd ((bt_n0 (by omega)).mp z) (by rw [hst (n + j) (by omega)]; decide)), ih (by omega)]
  refine ⟨U, by omega, ?_, u3⟩
  rw [show (10 : Nat) = n + (10 - n) by omega, up (10 - n) (by omega), u2]
theorem bits_pos {n : Nat} (hn : n ≤ 10) {st : Int32} (h : 1 ≤ st ∧ st ≤ allI (nI n)) : ∃ c, 0 < c ∧ c ≤ 10 ∧ popI st = nI c ∧ bitsA st 10 = nI c := by
  have hb : below n st := fire_below hn h
  have e : ∀ k, bitsA st k = nI (bitsN st k) := by
    intro k
    induction k with
    | zero => rfl
    | succ k ih =>
      show bitsA st k + bt st (nI k) = _
      rw [ih, bitsN_S]
  refine ⟨bitsN st 10, ?_, bitsN_le st 10, by rw [pop_eq (below_mono hb hn), e], e 10⟩
  refine Nat.pos_of_ne_zero fun z => ?_
  have hz : ∀ k, k ≤ 10 → bitsN st k = 0 → ∀ i, i < k → tb st i = false := by
    intro k
    induction k with
    | zero => intro _ _ i hi; omega
    | succ k ih =>
      intro hk hk0 i hi
      have hk0 : bitsN st k + (if bt st (nI k) = 1 then 1 else 0) = 0 := hk0
      by_cases w : bt st (nI k) = 1
      · rw [if_pos w] at hk0; omega
      · by_cases e : i = k
        · rw [e]
          cases q : tb st k
          · rfl
          · exact absurd ((bt_1 (by omega)).mpr q) w
        · exact ih (by omega) (by omega) i (by omega)
  have : st = 0 := zero_iff.mpr fun i hi => by
    by_cases w : i < 10
    · exact hz 10 (Nat.le_refl _) z i w
    · exact hb i (by omega)
  rw [this] at h
  exact absurd h.1 (by decide)
end ANS

/-! class and reference side by side, between calls -/
def INV (nn mm : Nat) (wo pr ne en : Row) (ke : Int32) (ow pl : Row) (bd : Int32) (sq : Nat) (wx wy wt : Row) (nn' mm' : Nat) (ke' : Bool) (bd' : Int32) (sq' : Nat) (en' ne' wo' pr' ow' pl' wa' : Row) : Prop :=
  nn' = nn ∧ mm' = mm ∧ bd' = bd ∧ sq' = sq ∧ mm ≤ 24 ∧ sq ≤ 40 ∧ (∃ (b : Nat) (p q : Nat → Nat), SNet nn b pr pr' ne ne' wo wo' bd p q) ∧ (∃ o : Nat → Nat, SPur ow ow' ke ke' o) ∧ ke = (if ke' = true then 1 else 0) ∧ (∀ l, l < mm → en l = pairM en' l) ∧ (∀ t, t < 8 → pl t = pl' (t + 1) ∧ 0 ≤ pl' (t + 1)) ∧ WL wa' wx wy wt sq
section INVS
variable {nn mm : Nat} {wo pr ne en : Row} {ke : Int32} {ow pl : Row} {bd : Int32} {sq : Nat} {wx wy wt : Row} {nn' mm' : Nat} {ke' : Bool} {bd' : Int32} {sq' : Nat} {en' ne' wo' pr' ow' pl' wa' : Row}
theorem inv_net (h : INV nn mm wo pr ne en ke ow pl bd sq wx wy wt nn' mm' ke' bd' sq' en' ne' wo' pr' ow' pl' wa') (v : Int32) :
    INV (if 1 ≤ v ∧ v ≤ 10 then v.toNatClampNeg else nn) (if 1 ≤ v ∧ v ≤ 10 then 0 else mm) (if 1 ≤ v ∧ v ≤ 10 then fillF wo 1 10 else wo) (if 1 ≤ v ∧ v ≤ 10 then fillF pr 1 10 else pr) (if 1 ≤ v ∧ v ≤ 10 then fillF ne 0 10 else ne) en ke ow (if 1 ≤ v ∧ v ≤ 10 then fillF pl 0 8 else pl) bd sq wx wy wt
      (if 1 ≤ v ∧ v ≤ 10 then v.toNatClampNeg else nn') (if 1 ≤ v ∧ v ≤ 10 then 0 else mm') ke' bd' sq' en' (if 1 ≤ v ∧ v ≤ 10 then fillF ne' 0 10 else ne') (if 1 ≤ v ∧ v ≤ 10 then fillF wo' 1 10 else wo') (if 1 ≤ v ∧ v ≤ 10 then fillF pr' 1 10 else pr') ow' (if 1 ≤ v ∧ v ≤ 10 then fillF pl' 0 9 else pl') wa' := by
  by_cases hv : 1 ≤ v ∧ v ≤ 10
  · simp only [if_pos hv]
    obtain ⟨K, hK, rfl⟩ := net_ix hv
    rw [nI_clamp (by omega)]
    obtain ⟨e1, e2, e3, e4, hm, hsq, ⟨b, p, q, hs⟩, hp, hke, hen, hpl, hw⟩ := h
    obtain ⟨-, -, -, -, -, -, -, -, -, -, hbd, hb1, hb2⟩ := hs
    have f1 : ∀ (f : Row) (x : Int32) (k : Nat), k < 10 → fillF f x 10 k = x := fun f x k hk => if_pos hk
    refine ⟨rfl, rfl, e3, e4, by omega, hsq, ⟨b, fun _ => 1, fun _ => 1, hK.1, hK.2, fun k hk => ?_, fun k hk => ?_, fun k hk => ?_, fun k hk => ?_, fun k hk => ?_, fun _ _ => (by decide : 1 ≤ 9), fun k hk => ?_, fun _ _ => (by decide : 1 ≤ 9), hbd, hb1, hb2⟩, hp, hke, fun l hl => by omega, fun t ht => ?_, hw⟩
    · rw [f1 _ _ k (by omega), f1 _ _ k (by omega)]
    · rw [f1 _ _ k (by omega), f1 _ _ k (by omega)]
    · rw [f1 _ _ k (by omega), f1 _ _ k (by omega)]
    · rw [f1 _ _ k (by omega)]
      exact below_0 K
    · rw [f1 _ _ k (by omega)]
      rfl
    · rw [f1 _ _ k (by omega)]
      rfl
    · unfold fillF
      rw [if_pos ht, if_pos (by omega)]
      exact ⟨rfl, by decide⟩
  · simp only [if_neg hv]
    exact h
theorem inv_line (h : INV nn mm wo pr ne en ke ow pl bd sq wx wy wt nn' mm' ke' bd' sq' en' ne' wo' pr' ow' pl' wa') (a b : Int32) :
    (lineO nn mm ne a b = lineR nn' mm' ne' a b) ∧
    INV nn (if linkO nn mm ne a b = true then mm + 1 else mm) wo pr (if linkO nn mm ne a b = true then upd (upd ne a.toNatClampNeg (ne a.toNatClampNeg ||| (1 <<< (b &&& 31)))) b.toNatClampNeg (upd ne a.toNatClampNeg (ne a.toNatClampNeg ||| (1 <<< (b &&& 31))) b.toNatClampNeg ||| (1 <<< (a &&& 31))) else ne) (if linkO nn mm ne a b = true then upd en mm ((1 <<< (a &&& 31)) ||| (1 <<< (b &&& 31))) else en) ke ow pl bd sq wx wy wt
      nn' (if linkR nn' mm' ne' a b = true then mm' + 1 else mm') ke' bd' sq' (if linkR nn' mm' ne' a b = true then upd (upd en' (2 * mm') a) (2 * mm' + 1) b else en') (if linkR nn' mm' ne' a b = true then upd (upd ne' a.toNatClampNeg (ne' a.toNatClampNeg ||| (1 <<< (b &&& 31)))) b.toNatClampNeg (upd ne' a.toNatClampNeg (ne' a.toNatClampNeg ||| (1 <<< (b &&& 31))) b.toNatClampNeg ||| (1 <<< (a &&& 31))) else ne') wo' pr' ow' pl' wa' := by
  have h0 := h
  obtain ⟨e1, e2, e3, e4, hm, hsq, ⟨b0, p, q, hs⟩, hp, hke, hen, hpl, hw⟩ := h
  subst e1; subst e2
  obtain ⟨hn1, hn, hpr, hne, hwo, hbl, hp1, hp9, hq1, hq9, hbd, hb1, hb2⟩ := hs
  by_cases hr : (0 ≤ a ∧ a ≤ nI nn' - 1) ∧ (0 ≤ b ∧ b ≤ nI nn' - 1)
  · obtain ⟨A, hA, rfl⟩ := i_hasE hn hn1 hr.1
    obtain ⟨B, hB, rfl⟩ := i_hasE hn hn1 hr.2
    have cA : (nI A).toNatClampNeg = A := nI_clamp (by omega)
    have cB : (nI B).toNatClampNeg = B := nI_clamp (by omega)
    have hbt : (¬ bt (ne A) (nI B) = 0) = (bt (ne' A) (nI B) = 1) := by
      rw [hne A hA]
      exact propext ⟨fun z => (bt_1 (by omega)).mpr ((bt_n0 (by omega)).mp z), fun z => (bt_n0 (by omega)).mpr ((bt_1 (by omega)).mp z)⟩
    have hbt0 : (bt (ne A) (nI B) = 0) = ¬ (bt (ne' A) (nI B) = 1) := by
      rw [← hbt]
      exact propext Decidable.not_not.symm
    have hlk : linkO nn' mm' ne (nI A) (nI B) = linkR nn' mm' ne' (nI A) (nI B) := by
      unfold linkO linkR
      rw [decide_eq_decide, cA, hbt0, show (mm' < 24) = ¬ mm' = 24 from propext (by omega)]
    refine ⟨?_, ?_⟩
    · unfold lineO lineR
      rw [if_pos hr, if_pos hr, cA]
      by_cases z : nI A = nI B
      · rw [if_pos z, if_pos z]
      · rw [if_neg z, if_neg z]
        by_cases w : bt (ne' A) (nI B) = 1
        · rw [if_pos w, if_pos (by rw [hbt]; exact w)]
        · rw [if_neg w, if_neg (by rw [hbt]; exact w)]
          by_cases y : mm' = 24
          · rw [if_pos y, if_neg (by omega)]
          · rw [if_neg y, if_pos (by omega)]
    · rw [hlk]
      by_cases hl : linkR nn' mm' ne' (nI A) (nI B) = true
      · simp only [if_pos hl]
        rw [cA, cB]
        have hm24 : mm' < 24 := by
          have := of_decide_eq_true hl
          omega
        refine ⟨rfl, rfl, e3, e4, by omega, hsq, ⟨b0, p, q, hn1, hn, hpr, fun k hk => ?_, hwo, fun k hk => ?_, hp1, hp9, hq1, hq9, hbd, hb1, hb2⟩, hp, hke, fun l hl => ?_, hpl, hw⟩
        · by_cases kB : k = B
          · rw [kB, pk_us, pk_us]
            by_cases BA : B = A
            · rw [BA, pk_us, pk_us, hne A hA]
            · rw [pk_un BA, pk_un BA, hne B hB]
          · rw [pk_un kB, pk_un kB]
            by_cases kA : k = A
            · rw [kA, pk_us, pk_us, hne A hA]
            · rw [pk_un kA, pk_un kA, hne k hk]
        · by_cases kB : k = B
          · rw [kB, pk_us]
            refine below_or ?_ (below_shl hA hn)
            by_cases BA : B = A
            · rw [BA, pk_us]
              exact below_or (hbl A hA) (BA ▸ below_shl hB hn)
            · rw [pk_un BA]
              exact hbl B hB
          · rw [pk_un kB]
            by_cases kA : k = A
            · rw [kA, pk_us]
              exact below_or (hbl A hA) (below_shl hB hn)
            · rw [pk_un kA]
              exact hbl k hk
        · unfold pairM
          by_cases z : l = mm'
          · rw [z, pk_us, pk_un (by omega), pk_us, pk_us]
          · rw [pk_un z, pk_un (f := upd en' (2 * mm') (nI A)) (by omega), pk_un (f := en') (by omega), pk_un (f := upd en' (2 * mm') (nI A)) (by omega), pk_un (f := en') (by omega)]
            exact hen l (by omega)
      · simp only [if_neg hl]
        exact h0
  · have hl1 : ¬ linkO nn' mm' ne a b = true := fun z => hr (of_decide_eq_true z).1
    have hl2 : ¬ linkR nn' mm' ne' a b = true := fun z => hr (of_decide_eq_true z).1
    refine ⟨?_, ?_⟩
    · unfold lineO lineR
      rw [if_neg hr, if_neg hr]
    · simp only [if_neg hl1, if_neg hl2]
      exact h0
theorem what_01 {what : Int32} (h0 : ¬ what = 0) (h1 : ¬ what = 1) : ¬ (0 ≤ what ∧ what ≤ 1) := fun z => h1 (what_1 z h0)
theorem inv_node (h : INV nn mm wo pr ne en ke ow pl bd sq wx wy wt nn' mm' ke' bd' sq' en' ne' wo' pr' ow' pl' wa') (k what v : Int32) :
    (nodeT (nI nn) wo pr k what v).1 = (nodeR (nI nn') wo' pr' k what v).1 ∧
    INV nn mm (nodeT (nI nn) wo pr k what v).2.1 (nodeT (nI nn) wo pr k what v).2.2 ne en ke ow pl bd sq wx wy wt nn' mm' ke' bd' sq' en' ne' (nodeR (nI nn') wo' pr' k what v).2.1 (nodeR (nI nn') wo' pr' k what v).2.2 ow' pl' wa' := by
  have h0 := h
  obtain ⟨e1, e2, e3, e4, hm, hsq, ⟨b0, p, q, hs⟩, hp, hke, hen, hpl, hw⟩ := h
  subst e1
  obtain ⟨hn1, hn, hpr, hne, hwo, hbl, hp1, hp9, hq1, hq9, hbd, hb1, hb2⟩ := hs
  unfold nodeT nodeR nodeT2
  by_cases hr : 0 ≤ k ∧ k ≤ nI nn' - 1
  · obtain ⟨A, hA, rfl⟩ := i_hasE hn hn1 hr
    have cA : (nI A).toNatClampNeg = A := nI_clamp (by omega)
    simp only [if_pos hr, cA]
    by_cases w0 : what = 0
    · subst w0
      have z01 : (0 : Int32) ≤ 0 ∧ (0 : Int32) ≤ 1 := by decide
      simp only [if_pos rfl, ite_true, if_pos z01, if_neg (show ¬ (0 : Int32) = 1 by decide)]
      by_cases hv : 0 ≤ v ∧ v ≤ 9
      · obtain ⟨V, hV, rfl⟩ := i_ixe (n := 9) hv.1 hv.2 (by omega)
        simp only [if_pos hv]
        refine ⟨hwo A hA, rfl, e2, e3, e4, hm, hsq, ⟨b0, p, fun j => if j = A then V else q j, hn1, hn, hpr, hne, fun j hj => ?_, hbl, hp1, hp9, fun j hj => ?_, fun j hj => ?_, hbd, hb1, hb2⟩, hp, hke, hen, hpl, hw⟩
        · by_cases z : j = A
          · rw [z, pk_us, pk_us]
          · rw [pk_un z, pk_un z, hwo j hj]
        · show upd wo' A (nI V) j = nI (if j = A then V else q j)
          by_cases z : j = A
          · rw [z, pk_us, if_pos rfl]
          · rw [pk_un z, if_neg z, hq1 j hj]
        · show (if j = A then V else q j) ≤ 9
          by_cases z : j = A
          · rw [if_pos z]; exact hV
          · rw [if_neg z]; exact hq9 j hj
      · simp only [if_neg hv]
        exact ⟨by trivial, h0⟩
    · by_cases w1 : what = 1
      · subst w1
        have z01 : (0 : Int32) ≤ 1 ∧ (1 : Int32) ≤ 1 := by decide
        simp only [if_neg w0, if_pos rfl, ite_true, if_pos z01]
        by_cases hv : 1 ≤ v ∧ v ≤ 9
        · obtain ⟨V, hV, rfl⟩ := i_ixe (n := 9) (Int32.le_trans (by decide) hv.1) hv.2 (by omega)
          simp only [if_pos hv]
          refine ⟨hpr A hA, rfl, e2, e3, e4, hm, hsq, ⟨b0, fun j => if j = A then V else p j, q, hn1, hn, fun j hj => ?_, hne, hwo, hbl, fun j hj => ?_, fun j hj => ?_, hq1, hq9, hbd, hb1, hb2⟩, hp, hke, hen, hpl, hw⟩
          · by_cases z : j = A
            · rw [z, pk_us, pk_us]
            · rw [pk_un z, pk_un z, hpr j hj]
          · show upd pr' A (nI V) j = nI (if j = A then V else p j)
            by_cases z : j = A
            · rw [z, pk_us, if_pos rfl]
            · rw [pk_un z, if_neg z, hp1 j hj]
          · show (if j = A then V else p j) ≤ 9
            by_cases z : j = A
            · rw [if_pos z]; exact hV
            · rw [if_neg z]; exact hp9 j hj
        · simp only [if_neg hv]
          exact ⟨by trivial, h0⟩
      · simp only [if_neg w0, if_neg w1, if_neg (what_01 w0 w1)]
        exact ⟨by trivial, h0⟩
  · simp only [if_neg hr]
    exact ⟨by trivial, h0⟩
theorem tick_pred {T : Nat} (h1 : 1 ≤ T) (h8 : T ≤ 8) : (nI T - 1).toNatClampNeg = T - 1 := by
  rw [show nI T - 1 = nI (T - 1) from pk_sub (a := T) (b := 1) h1, nI_clamp (by omega)]
theorem inv_purse (h : INV nn mm wo pr ne en ke ow pl bd sq wx wy wt nn' mm' ke' bd' sq' en' ne' wo' pr' ow' pl' wa') (t v : Int32) :
    (purseT ow t v).1 = (purseR ow' t v).1 ∧ INV nn mm wo pr ne en ke (purseT ow t v).2 pl bd sq wx wy wt nn' mm' ke' bd' sq' en' ne' wo' pr' (purseR ow' t v).2 pl' wa' := by
  have h0 := h
  obtain ⟨e1, e2, e3, e4, hm, hsq, hs, ⟨o, o1, o2, o3⟩, hke, hen, hpl, hw⟩ := h
  unfold purseT purseR
  by_cases ht : 1 ≤ t ∧ t ≤ 8
  · obtain ⟨T, hT, rfl⟩ := tick_ix ht
    simp only [if_pos ht]
    by_cases hv : 0 ≤ v ∧ v ≤ 20
    · obtain ⟨V, hV, rfl⟩ := i_ixe (n := 20) hv.1 hv.2 (by omega)
      simp only [if_pos hv]
      rw [tick_pred hT.1 hT.2, nI_clamp (by omega)]
      refine ⟨by rw [o1 (T - 1) (by omega), show T - 1 + 1 = T by omega], e1, e2, e3, e4, hm, hsq, hs, ⟨fun j => if j = T then V else o j, fun j hj => ?_, fun j j1 j8 => ?_, o3⟩, hke, hen, hpl, hw⟩
      · by_cases z : j = T - 1
        · rw [z, pk_us, show T - 1 + 1 = T by omega, pk_us]
        · rw [pk_un z, pk_un (by omega), o1 j hj]
      · show upd ow' T (nI V) j = nI (if j = T then V else o j) ∧ (if j = T then V else o j) ≤ 20
        by_cases z : j = T
        · rw [z, pk_us, if_pos rfl]
          exact ⟨rfl, hV⟩
        · rw [pk_un z, if_neg z]
          exact o2 j j1 j8
    · simp only [if_neg hv]
      exact ⟨by trivial, h0⟩
  · simp only [if_neg ht]
    exact ⟨by trivial, h0⟩
theorem inv_plan (h : INV nn mm wo pr ne en ke ow pl bd sq wx wy wt nn' mm' ke' bd' sq' en' ne' wo' pr' ow' pl' wa') (t v : Int32) :
    (planT pl t v).1 = (planR pl' t v).1 ∧ INV nn mm wo pr ne en ke ow (planT pl t v).2 bd sq wx wy wt nn' mm' ke' bd' sq' en' ne' wo' pr' ow' (planR pl' t v).2 wa' := by
  have h0 := h
  obtain ⟨e1, e2, e3, e4, hm, hsq, hs, hp, hke, hen, hpl, hw⟩ := h
  unfold planT planR
  by_cases ht : 1 ≤ t ∧ t ≤ 8
  · obtain ⟨T, hT, rfl⟩ := tick_ix ht
    simp only [if_pos ht]
    by_cases hv : 0 ≤ v ∧ v ≤ 1023
    · simp only [if_pos hv]
      rw [tick_pred hT.1 hT.2, nI_clamp (by omega)]
      refine ⟨by rw [(hpl (T - 1) (by omega)).1, show T - 1 + 1 = T by omega], e1, e2, e3, e4, hm, hsq, hs, hp, hke, hen, fun j hj => ?_, hw⟩
      by_cases z : j = T - 1
      · rw [z, pk_us, show T - 1 + 1 = T by omega, pk_us]
        exact ⟨rfl, hv.1⟩
      · rw [pk_un z, pk_un (by omega)]
        exact hpl j hj
    · simp only [if_neg hv]
      exact ⟨by trivial, h0⟩
  · simp only [if_neg ht]
    exact ⟨by trivial, h0⟩
theorem inv_rule (h : INV nn mm wo pr ne en ke ow pl bd sq wx wy wt nn' mm' ke' bd' sq' en' ne' wo' pr' ow' pl' wa') (what v : Int32) :
    (ruleT ke bd what v).1 = (ruleM ke' bd' what v).1 ∧ INV nn mm wo pr ne en (ruleT ke bd what v).2.1 ow pl (ruleT ke bd what v).2.2 sq wx wy wt nn' mm' (ruleM ke' bd' what v).2.1 (ruleM ke' bd' what v).2.2 sq' en' ne' wo' pr' ow' pl' wa' := by
  have h0 := h
  obtain ⟨e1, e2, e3, e4, hm, hsq, ⟨b0, p, q, hs⟩, ⟨o, o1, o2, o3⟩, hke, hen, hpl, hw⟩ := h
  obtain ⟨hn1, hn, hpr, hne, hwo, hbl, hp1, hp9, hq1, hq9, hbd, hb1, hb2⟩ := hs
  unfold ruleT ruleM ruleT2
  by_cases w0 : what = 0
  · subst w0
    have z01 : (0 : Int32) ≤ 0 ∧ (0 : Int32) ≤ 1 := by decide
    simp only [if_pos rfl, ite_true, if_pos z01, if_neg (show ¬ (0 : Int32) = 1 by decide)]
    by_cases hv : 0 ≤ v ∧ v ≤ 1
    · simp only [if_pos hv]
      refine ⟨hke, e1, e2, e3, e4, hm, hsq, ⟨b0, p, q, hn1, hn, hpr, hne, hwo, hbl, hp1, hp9, hq1, hq9, hbd, hb1, hb2⟩, ⟨o, o1, o2, ?_⟩, ?_, hen, hpl, hw⟩
      · rw [decide_eq_true_iff]
      · by_cases z : v = 1
        · rw [if_pos (decide_eq_true z), z]
        · rw [if_neg (by rw [decide_eq_true_iff]; exact z)]
          exact Decidable.byContradiction fun g => z (what_1 hv g)
    · simp only [if_neg hv]
      exact ⟨by trivial, h0⟩
  · by_cases w1 : what = 1
    · subst w1
      have z01 : (0 : Int32) ≤ 1 ∧ (1 : Int32) ≤ 1 := by decide
      simp only [if_neg w0, if_pos rfl, ite_true, if_pos z01]
      by_cases hv : 50 ≤ v ∧ v ≤ 1000
      · simp only [if_pos hv]
        obtain ⟨V, hV, rfl⟩ := i_ixe (n := 1000) (Int32.le_trans (by decide) hv.1) hv.2 (by omega)
        exact ⟨e3.symm, e1, e2, rfl, e4, hm, hsq, ⟨V, p, q, hn1, hn, hpr, hne, hwo, hbl, hp1, hp9, hq1, hq9, rfl, (nI_leI (a := 50) (by omega) (by omega)).mp hv.1, hV⟩, ⟨o, o1, o2, o3⟩, hke, hen, hpl, hw⟩
      · simp only [if_neg hv]
        exact ⟨by trivial, h0⟩
    · simp only [if_neg w0, if_neg w1, if_neg (what_01 w0 w1)]
      exact ⟨by trivial, h0⟩
theorem inv_count (h : INV nn mm wo pr ne en ke ow pl bd sq wx wy wt nn' mm' ke' bd' sq' en' ne' wo' pr' ow' pl' wa') (what : Int32) : countO nn mm wo sq wt what = countR nn' mm' wo' sq' wa' what := by
  obtain ⟨e1, e2, e3, e4, hm, hsq, ⟨b0, p, q, hs⟩, hp, hke, hen, hpl, hw⟩ := h
  subst e1; subst e2; subst e4
  obtain ⟨hn1, hn, hpr, hne, hwo, hbl, hp1, hp9, hq1, hq9, hbd, hb1, hb2⟩ := hs
  unfold countO countR
  rw [sum_ten hn hwo (below_all hn), need_eq (fun k hk => by obtain ⟨X, Y, -, -, -, -, -, -, h5⟩ := hw k hk; exact h5)]
theorem inv_take (h : INV nn mm wo pr ne en ke ow pl bd sq wx wy wt nn' mm' ke' bd' sq' en' ne' wo' pr' ow' pl' wa') {kept pz : Row} {P : Prop} [Decidable P] (hk : P → ∀ i, i < 8 → 0 ≤ kept i) (hz : ∀ t, 1 ≤ t → t ≤ 8 → pz t = if P then kept (t - 1) else pl' t) :
    INV nn mm wo pr ne en ke ow (if P then cpF kept pl 8 else pl) bd sq wx wy wt nn' mm' ke' bd' sq' en' ne' wo' pr' ow' pz wa' := by
  obtain ⟨e1, e2, e3, e4, hm, hsq, hs, hp, hke, hen, hpl, hw⟩ := h
  refine ⟨e1, e2, e3, e4, hm, hsq, hs, hp, hke, hen, fun t ht => ?_, hw⟩
  have z := hz (t + 1) (by omega) (by omega)
  rw [show t + 1 - 1 = t by omega] at z
  rw [z]
  by_cases hP : P
  · rw [if_pos hP, if_pos hP]
    refine ⟨?_, hk hP t ht⟩
    unfold cpF
    rw [if_pos ht]
  · rw [if_neg hP, if_neg hP]
    exact hpl t ht
theorem crd_of {x : Int32} (h : -30 ≤ x ∧ x ≤ 30) : ∃ X, X ≤ 60 ∧ x = crd X := by
  have h1 := Int32.le_iff_toInt_le.mp h.1
  have h2 := Int32.le_iff_toInt_le.mp h.2
  have e1 : (-30 : Int32).toInt = -30 := rfl
  have e2 : (30 : Int32).toInt = 30 := rfl
  rw [e1] at h1
  rw [e2] at h2
  refine ⟨(x.toInt + 30).toNat, by omega, ?_⟩
  have e : x + 30 = nI (x.toInt + 30).toNat := by
    apply Int32.toInt_inj.mp
    rw [nI_toInt (by omega), Int32.toInt_add, e2, Int.bmod_eq_of_le (by omega) (by omega)]
    omega
  show x = nI _ - 30
  rw [← e, Int32.add_sub_cancel]
theorem inv_wall (h : INV nn mm wo pr ne en ke ow pl bd sq wx wy wt nn' mm' ke' bd' sq' en' ne' wo' pr' ow' pl' wa') (x y t : Int32) :
    wallO wx wy sq x y t = wallR wa' sq' x y t ∧ INV nn mm wo pr ne en ke ow pl bd (if wallB wx wy sq x y t = true then sq + 1 else sq) (if wallB wx wy sq x y t = true then upd wx sq x else wx) (if wallB wx wy sq x y t = true then upd wy sq y else wy) (if wallB wx wy sq x y t = true then upd wt sq t else wt)
      nn' mm' ke' bd' (if wallC wa' sq' x y t = true then sq' + 1 else sq') en' ne' wo' pr' ow' pl' (if wallC wa' sq' x y t = true then upd (upd (upd wa' (3 * sq') x) (3 * sq' + 1) y) (3 * sq' + 2) t else wa') := by
  have h0 := h
  obtain ⟨e1, e2, e3, e4, hm, hsq, hs, hp, hke, hen, hpl, hw⟩ := h
  subst e4
  obtain ⟨a1, a2⟩ := wall_ans (x := x) (y := y) (t := t) hsq (fun k hk => by
    obtain ⟨X, Y, -, -, h1, h2, h3, h4, -⟩ := hw k hk
    exact ⟨h1.trans h3.symm, h2.trans h4.symm⟩)
  refine ⟨a1, ?_⟩
  rw [a2]
  by_cases hc : wallC wa' sq' x y t = true
  · simp only [if_pos hc]
    have hd := of_decide_eq_true hc
    obtain ⟨X, hX, eX⟩ := crd_of hd.1
    obtain ⟨Y, hY, eY⟩ := crd_of hd.2.1
    have h40 : sq' < 40 := by
      have := hd.2.2.2.2.2
      omega
    refine ⟨e1, e2, e3, rfl, hm, by omega, hs, hp, hke, hen, hpl, fun k hk => ?_⟩
    by_cases z : k = sq'
    · refine ⟨X, Y, hX, hY, ?_, ?_, ?_, ?_, ?_⟩
      · rw [z, pk_us]; exact eX
      · rw [z, pk_us]; exact eY
      · rw [z, pk_un (by omega), pk_un (by omega), pk_us]; exact eX
      · rw [z, pk_un (by omega), pk_us]; exact eY
      · rw [z, pk_us, pk_us]
    · obtain ⟨X, Y, hX, hY, w1, w2, w3, w4, w5⟩ := hw k (by omega)
      have off : ∀ j, j < 3 → upd (upd (upd wa' (3 * sq') x) (3 * sq' + 1) y) (3 * sq' + 2) t (3 * k + j) = wa' (3 * k + j) := fun j hj => by
        rw [pk_un (by omega), pk_un (by omega), pk_un (by omega)]
      refine ⟨X, Y, hX, hY, ?_, ?_, ?_, ?_, ?_⟩
      · rw [pk_un z]; exact w1
      · rw [pk_un z]; exact w2
      · exact (off 0 (by omega)).trans w3
      · exact (off 1 (by omega)).trans w4
      · rw [pk_un z, off 2 (by omega)]; exact w5
  · simp only [if_neg hc]
    exact h0
theorem inv_raze (h : INV nn mm wo pr ne en ke ow pl bd sq wx wy wt nn' mm' ke' bd' sq' en' ne' wo' pr' ow' pl' wa') : INV nn mm wo pr ne en ke ow pl bd 0 wx wy wt nn' mm' ke' bd' 0 en' ne' wo' pr' ow' pl' wa' := by
  obtain ⟨e1, e2, e3, e4, hm, hsq, hs, hp, hke, hen, hpl, hw⟩ := h
  exact ⟨e1, e2, e3, rfl, hm, by omega, hs, hp, hke, hen, hpl, fun k hk => by omega⟩
end INVS

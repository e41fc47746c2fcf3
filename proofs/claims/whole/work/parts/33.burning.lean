/-! the board: the whole fire, and the answers -/
def BRl (k : Nat) (x : Bs) (q : RBt) : Prop := x.1 = q.2.2 ∧ (q.2.2 = -1 ∨ ∃ t, 1 ≤ t ∧ t ≤ 24 ∧ q.2.2 = nI t) ∧ x.2.1 = q.2.1 ∧ CR k x.2.2.1 x.2.2.2.2 q.1
theorem cr_mono {k k' : Nat} {bu gd : RowL} {bb : Row} (h : CR k bu gd bb) (hk : k ≤ k') : CR k' bu gd bb := ⟨fun X Y hX hY => ⟨(h.1 X Y hX hY).1, fun g => Nat.le_trans ((h.1 X Y hX hY).2 g) hk⟩, h.2⟩
section BOARD
variable {k w sq : Nat} {wa wx wy wt : Row} {x : Bs} {q q0 : RBt}
theorem brd_step (hk : k ≤ 23) (hw : w = 61) (hW : WL wa wx wy wt sq) (h : BRl k x q) (hx : x.1 = -1) : BRl (k + 1) (brnS wx wy wt sq (k + 1) x) (runS w wa sq (k + 1) q) := by
  obtain ⟨h1, h2, h3, h4⟩ := h
  obtain ⟨b1, b2⟩ := build_eq hk hW (nI (k + 1)) x.2.1 h4 sq (Nat.le_refl _)
  rw [h3] at b1 b2
  have hpg : pgB wx wy wt sq (nI (k + 1)) x = pgA x.2.2.1 wx wy wt (nI (k + 1)) (q.2.1, x.2.2.2.2) sq := by
    unfold pgB
    rw [h3]
  unfold brnS runS
  rw [hpg]
  generalize pgA x.2.2.1 wx wy wt (nI (k + 1)) (q.2.1, x.2.2.2.2) sq = g at *
  generalize bldA wa (nI (k + 1)) (q.1, q.2.1) sq = b at *
  have hbu : ∀ r, r < 49 → va_cpy (aftA x.2.2.1 g.2 x.2.2.2.1 49) x.2.2.1 0 0 49 r = sprR x.2.2.1 g.2 r := fun r hr => by
    rw [pk_cpy_in (Nat.zero_le _) (by omega), Nat.zero_add, Nat.sub_zero]
    unfold aftA
    rw [if_pos hr]
  have hcr := cr_next hk hw b2 hbu
  have hm := more_eq hk hw b2
  by_cases z : moreA x.2.2.1 g.2 49 = true
  · rw [if_pos z, if_pos (hm.mp z)]
    exact ⟨hx, Or.inl rfl, b1, hcr⟩
  · rw [if_neg z, if_neg (fun y => z (hm.mpr y))]
    exact ⟨rfl, Or.inr ⟨k + 1, by omega, by omega, rfl⟩, b1, hcr⟩
theorem brd_all (hw : w = 61) (hW : WL wa wx wy wt sq) : ∀ (f k : Nat) (x : Bs), k + f ≤ 24 → BRl k x (runA w wa sq q0 k) → BRl 24 (brnL wx wy wt sq f (k + 1) x) (runA w wa sq q0 (k + f))
  | 0, k, x, hk, h => ⟨h.1, h.2.1, h.2.2.1, cr_mono h.2.2.2 (by omega)⟩
  | f + 1, k, x, hk, h => by
    rw [brnL]
    by_cases z : x.1 = -1
    · rw [if_pos z, show k + (f + 1) = (k + 1) + f by omega]
      refine brd_all hw hW f (k + 1) _ (by omega) ?_
      have hs : (runA w wa sq q0 k).2.2 < 0 := by rw [← h.1, z]; decide
      rw [runA, if_pos hs]
      exact brd_step (by omega) hw hW h z
    · rw [if_neg z]
      have hs : ¬ (runA w wa sq q0 k).2.2 < 0 := by
        rcases h.2.1 with g | ⟨t, t1, t2, g⟩
        · exact absurd (h.1.trans g) z
        · rw [g]; exact nI_pos (by omega)
      rw [runA_stop hs]
      exact ⟨h.1, h.2.1, h.2.2.1, cr_mono h.2.2.2 (by omega)⟩
theorem brd_start (bu af gd : RowL) (bb : Row) : BRl 0 (brn0 bu af gd) (run0 bb) := by
  refine ⟨rfl, Or.inl rfl, rfl, ⟨fun X Y hX hY => ?_, fun c r hc hr => ?_, fun c r hr hc => ?_⟩⟩
  · show (upd (fillF bb 0 3721) 1860 1 (61 * Y + X) = 0 ∨ upd (fillF bb 0 3721) 1860 1 (61 * Y + X) = 1 ∨ upd (fillF bb 0 3721) 1860 1 (61 * Y + X) = 2) ∧ (upd (fillF bb 0 3721) 1860 1 (61 * Y + X) = 1 → dst X Y ≤ 0)
    by_cases z : 61 * Y + X = 1860
    · rw [z, pk_us]
      refine ⟨Or.inr (Or.inl rfl), fun _ => ?_⟩
      unfold dst
      omega
    · rw [pk_un z]
      unfold fillF
      rw [if_pos (by omega)]
      exact ⟨Or.inl rfl, fun g => absurd g (by decide)⟩
  · show (upd (fillF bb 0 3721) 1860 1 (61 * (r + 6) + (c + 6)) = 1 ↔ lb (vp_updL (fillF bu 0 49) 24 16777216 r) c = true) ∧ (upd (fillF bb 0 3721) 1860 1 (61 * (r + 6) + (c + 6)) = 2 ↔ lb (fillF gd 0 49 r) c = true)
    have e2 : lb (fillF gd 0 49 r) c = false := by
      unfold fillF
      rw [if_pos hr, lb_0]
    rw [e2]
    by_cases z : 61 * (r + 6) + (c + 6) = 1860
    · have er : r = 24 := by omega
      have ec : c = 24 := by omega
      rw [z, pk_us, er, uL_s, ec, lb_mid 24 (by omega)]
      exact ⟨⟨fun _ => rfl, fun _ => rfl⟩, ⟨fun g => absurd g (by decide), fun g => (by cases g)⟩⟩
    · rw [pk_un z]
      have ef : fillF bb 0 3721 (61 * (r + 6) + (c + 6)) = 0 := by
        unfold fillF
        rw [if_pos (by omega)]
      rw [ef]
      refine ⟨⟨fun g => absurd g (by decide), fun g => ?_⟩, ⟨fun g => absurd g (by decide), fun g => (by cases g)⟩⟩
      exfalso
      by_cases er : r = 24
      · rw [er, uL_s, lb_mid c (by omega)] at g
        have := of_decide_eq_true g
        omega
      · rw [uL_n er] at g
        unfold fillF at g
        rw [if_pos hr, lb_0] at g
        cases g
  · show lb (vp_updL (fillF bu 0 49) 24 16777216 r) c = false
    by_cases er : r = 24
    · rw [er, uL_s]
      by_cases h64 : c < 64
      · rw [lb_mid c h64, decide_eq_false (by omega)]
      · exact lb_big (by omega)
    · rw [uL_n er]
      unfold fillF
      rw [if_pos hr, lb_0]
theorem brd_eq (hw : w = 61) (hW : WL wa wx wy wt sq) (bu af gd : RowL) (bb : Row) {y : Bs} {z : RBt} (hy : y = brnL wx wy wt sq 24 1 (brn0 bu af gd)) (hz : z = runA w wa sq (run0 bb) 24) : BRl 24 y z := by
  have h := brd_all (q0 := run0 bb) hw hW 24 0 (brn0 bu af gd) (by omega) (brd_start bu af gd bb)
  rw [hy, hz]
  exact h
end BOARD
/-! counting what burns -/
theorem ct_still {bb : Row} {Y : Nat} {q : RBc} {a : Nat} : ∀ j, (∀ X, a ≤ X → X < a + j → ¬ bb (61 * Y + X) = 1) → ctX bb Y q (a + j) = ctX bb Y q a
  | 0, _ => rfl
  | j + 1, h => by
    show ctS bb (a + j) Y (ctX bb Y q (a + j)) = _
    rw [ct_still j (fun X h1 h2 => h X h1 (by omega))]
    unfold ctS
    rw [if_neg (h (a + j) (by omega) (by omega)), Int32.add_zero]
theorem abs_size : ∀ c, c < 49 → sizeI (crd (c + 6)) = absI (nI c - 24) := by decide +kernel
theorem ct_row {bu gd : RowL} {bb : Row} (h : CR 24 bu gd bb) {r : Nat} (hr : r < 49) (q : RBc) : ∀ c, c ≤ 49 → ctX bb (r + 6) q (6 + c) = (q.1 + nI (cntL (bu r).toBitVec.toNat c), rchR bu r q.2 c)
  | 0, _ => by
    have e : ctX bb (r + 6) q (0 + 6) = ctX bb (r + 6) q 0 := ct_still 6 (fun X _ h2 g => by
      have := (h.1 X (r + 6) (by omega) (by omega)).2 g
      unfold dst at this
      omega)
    show ctX bb (r + 6) q (0 + 6) = (q.1 + 0, q.2)
    rw [e, Int32.add_zero]
    rfl
  | c + 1, hc => by
    show ctS bb (6 + c) (r + 6) (ctX bb (r + 6) q (6 + c)) = (q.1 + nI (cntL (bu r).toBitVec.toNat c + if (bu r).toBitVec.toNat.testBit c = true then 1 else 0), if lg_cmp ((bu r >>> ((nI c).toInt64 &&& 63)) &&& 1) 0 = 0 then rchR bu r q.2 c else maxI (rchR bu r q.2 c) (absI (nI r - 24) + absI (nI c - 24)))
    rw [ct_row h hr q c (by omega)]
    have hcell := (h.2.1 c r (by omega) hr).1
    have hbit : (bu r).toBitVec.toNat.testBit c = lb (bu r) c := BitVec.testBit_toNat _
    unfold ctS
    rw [Nat.add_comm 6 c, hbit]
    by_cases z : lb (bu r) c = true
    · rw [if_pos (hcell.mpr z), if_pos z, if_neg (show ¬ lg_cmp ((bu r >>> ((nI c).toInt64 &&& 63)) &&& 1) 0 = 0 from fun g => by rw [(lb_ssh _ (by omega)).mp ((cmp_eq0 _ _).mp g)] at z; cases z), abs_size c (by omega), abs_size r hr, Int32.add_comm (absI (nI c - 24))]
      show (q.1 + nI _ + 1, _) = (q.1 + nI (_ + 1), maxI _ _)
      rw [Int32.add_assoc, nI_1]
      rfl
    · have z0 : lb (bu r) c = false := by
        cases g : lb (bu r) c
        · rfl
        · exact absurd g z
      rw [if_neg (fun g => z (hcell.mp g)), if_neg z, if_pos ((cmp_eq0 _ _).mpr ((lb_ssh _ (by omega)).mpr z0)), Nat.add_zero, Int32.add_zero]
theorem cnt_top {x : Int64} (h : ∀ c, 49 ≤ c → lb x c = false) : ∀ j, cntL x.toBitVec.toNat (49 + j) = cntL x.toBitVec.toNat 49
  | 0 => rfl
  | j + 1 => by
    show cntL x.toBitVec.toNat (49 + j) + (if x.toBitVec.toNat.testBit (49 + j) = true then 1 else 0) = _
    have hbit : x.toBitVec.toNat.testBit (49 + j) = lb x (49 + j) := BitVec.testBit_toNat _
    rw [cnt_top h j, hbit, h (49 + j) (by omega), if_neg Bool.false_ne_true, Nat.add_zero]
theorem ct_line {bu gd : RowL} {bb : Row} (h : CR 24 bu gd bb) {w : Nat} (hw : w = 61) {r : Nat} (hr : r < 49) (q : RBc) : ctX bb (r + 6) q w = (q.1 + popL (bu r), rchR bu r q.2 49) := by
  have e : ctX bb (r + 6) q (55 + 6) = ctX bb (r + 6) q 55 := ct_still 6 (fun X h1 h2 g => by
    have := (h.1 X (r + 6) (by omega) (by omega)).2 g
    unfold dst at this
    omega)
  rw [show w = 55 + 6 by omega, e, show (55 : Nat) = 6 + 49 by omega, ct_row h hr q 49 (Nat.le_refl _), popL_eq, ← cnt_top (fun c hc => h.2.2 c r hr hc) 15]
theorem ct_empty {bu gd : RowL} {bb : Row} (h : CR 24 bu gd bb) {w Y : Nat} (hw : w = 61) (hY : Y ≤ 60) (hY2 : Y < 6 ∨ 55 ≤ Y) (q : RBc) : ctX bb Y q w = q := by
  have e : ctX bb Y q (0 + w) = ctX bb Y q 0 := ct_still w (fun X _ h2 g => by
    have := (h.1 X Y (by omega) hY).2 g
    unfold dst at this
    omega)
  rw [Nat.zero_add] at e
  exact e
theorem cty_low {bu gd : RowL} {bb : Row} (h : CR 24 bu gd bb) {w : Nat} (hw : w = 61) : ∀ Y, Y ≤ 6 → ctY w bb Y = (0, 0)
  | 0, _ => rfl
  | Y + 1, hY => by
    show ctX bb Y (ctY w bb Y) w = _
    rw [cty_low h hw Y (by omega), ct_empty h hw (by omega) (by omega)]
theorem cty_mid {bu gd : RowL} {bb : Row} (h : CR 24 bu gd bb) {w : Nat} (hw : w = 61) : ∀ r, r ≤ 49 → ctY w bb (r + 6) = (brtA bu r, rchA bu r)
  | 0, _ => by
    rw [Nat.zero_add, cty_low h hw 6 (Nat.le_refl _)]
    rfl
  | r + 1, hr => by
    rw [show r + 1 + 6 = (r + 6) + 1 by omega]
    show ctX bb (r + 6) (ctY w bb (r + 6)) w = _
    rw [cty_mid h hw r (by omega), ct_line h hw (by omega)]
    rfl
theorem cty_all {bu gd : RowL} {bb : Row} (h : CR 24 bu gd bb) {w : Nat} (hw : w = 61) : ctY w bb w = (brtA bu 49, rchA bu 49) := by
  have : ∀ j, j ≤ 6 → ctY w bb (55 + j) = ctY w bb 55 := fun j => by
    induction j with
    | zero => intro _; rfl
    | succ j ih =>
      intro hj
      show ctX bb (55 + j) (ctY w bb (55 + j)) w = _
      rw [ct_empty h hw (by omega) (by omega), ih (by omega)]
  have e := this 6 (Nat.le_refl _)
  have e2 := cty_mid h hw 49 (Nat.le_refl _)
  rw [show (49 + 6 : Nat) = 55 from rfl] at e2
  rw [show ctY w bb w = ctY w bb (55 + 6) by rw [show (55 + 6 : Nat) = w by omega], e, e2]
theorem board_ans {y : Bs} {z : RBt} {w : Nat} (hw : w = 61) (h : BRl 24 y z) (what : Int32) : boardO y what = boardR w z what := by
  obtain ⟨h1, h2, h3, h4⟩ := h
  unfold boardO boardR
  rw [cty_all h4 hw, h1, h3]
/-! the wall -/
theorem cntA_eq {wt wa : Row} {t : Int32} {sq : Nat} (h : ∀ k, k < sq → wt k = wa (3 * k + 2)) : ∀ k, k ≤ sq → cntA wt t k = cntM wa t k
  | 0, _ => rfl
  | k + 1, hk => by
    show (if wt k = t then cntA wt t k + 1 else cntA wt t k) = (if wa (3 * k + 2) = t then cntM wa t k + 1 else cntM wa t k + 0)
    rw [cntA_eq h k (by omega), h k (by omega), Int32.add_zero]
theorem need_eq {wt wa : Row} {sq : Nat} (h : ∀ k, k < sq → wt k = wa (3 * k + 2)) : ∀ t, needA wt sq t = needM wa sq t
  | 0 => rfl
  | t + 1 => by
    show (if needA wt sq t < cntA wt (nI (t + 1)) sq then cntA wt (nI (t + 1)) sq else needA wt sq t) = (if needM wa sq t < cntM wa (nI (t + 1)) sq then cntM wa (nI (t + 1)) sq else needM wa sq t)
    rw [need_eq h t, cntA_eq h sq (Nat.le_refl _)]
theorem isW_eq {wa wx wy : Row} {x y : Int32} {sq : Nat} (h : ∀ k, k < sq → wx k = wa (3 * k) ∧ wy k = wa (3 * k + 1)) : ∀ k, k ≤ sq → isWB wx wy x y k = isWM wa x y k
  | 0, _ => rfl
  | k + 1, hk => by
    show (isWB wx wy x y k || (decide (wx k = x) && decide (wy k = y))) = (isWM wa x y k || (decide (wa (3 * k) = x) && decide (wa (3 * k + 1) = y)))
    rw [isW_eq h k (by omega), (h k (by omega)).1, (h k (by omega)).2]
theorem wall_ans {wa wx wy : Row} {x y t : Int32} {sq : Nat} (hsq : sq ≤ 40) (h : ∀ k, k < sq → wx k = wa (3 * k) ∧ wy k = wa (3 * k + 1)) : wallO wx wy sq x y t = wallR wa sq x y t ∧ wallB wx wy sq x y t = wallC wa sq x y t := by
  have e := isW_eq (x := x) (y := y) h sq (Nat.le_refl _)
  have e2 : (if sq < 40 then nI (sq + 1) else (-1004 : Int32)) = if sq = 40 then -1004 else nI (sq + 1) := by
    by_cases z : sq = 40
    · rw [if_pos z, if_neg (by omega)]
    · rw [if_neg z, if_pos (by omega)]
  refine ⟨?_, ?_⟩
  · unfold wallO wallR
    rw [e, e2]
  · unfold wallB wallC
    rw [e]
    exact decide_eq_decide.mpr ⟨fun ⟨a1, a2, a3, a4, a5, a6⟩ => ⟨a1, a2, a3, a4, a5, by omega⟩, fun ⟨a1, a2, a3, a4, a5, a6⟩ => ⟨a1, a2, a3, a4, a5, by omega⟩⟩

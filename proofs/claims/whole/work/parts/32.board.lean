/-! the board: rows of bits beside squares of numbers -/
def lb (x : Int64) (i : Nat) : Bool := x.toBitVec.getLsbD i
theorem lb_ext {x y : Int64} (h : ∀ i, i < 64 → lb x i = lb y i) : x = y := Int64.toBitVec_inj.mp (BitVec.eq_of_getLsbD_eq (fun i hi => h i hi))
theorem lb_or (x y : Int64) (i : Nat) : lb (x ||| y) i = (lb x i || lb y i) := by unfold lb; rw [Int64.toBitVec_or, BitVec.getLsbD_or]
theorem lb_and (x y : Int64) (i : Nat) : lb (x &&& y) i = (lb x i && lb y i) := by unfold lb; rw [Int64.toBitVec_and, BitVec.getLsbD_and]
theorem lb_xor (x y : Int64) (i : Nat) : lb (x ^^^ y) i = (lb x i ^^ lb y i) := by unfold lb; rw [Int64.toBitVec_xor, BitVec.getLsbD_xor]
theorem lb_m1 : ∀ i, i < 64 → lb (-1) i = true := by decide +kernel
theorem lb_0 (i : Nat) : lb 0 i = false := BitVec.getLsbD_zero
theorem lb_big {x : Int64} {i : Nat} (h : 64 ≤ i) : lb x i = false := BitVec.getLsbD_of_ge _ _ h
theorem lb_not (x : Int64) {i : Nat} (hi : i < 64) : lb (x ^^^ (-1)) i = !lb x i := by rw [lb_xor, lb_m1 i hi]; cases lb x i <;> rfl
theorem lb_bit : ∀ c, c < 49 → ∀ i, i < 64 → lb ((1 : Int64) <<< ((nI c).toInt64 &&& 63)) i = decide (i = c) := by decide +kernel
theorem lb_mid : ∀ i, i < 64 → lb 16777216 i = decide (i = 24) := by decide +kernel
theorem lb_1 : ∀ i, i < 64 → lb 1 i = decide (i = 0) := by decide +kernel
theorem lb_shl (x : Int64) {i : Nat} (hi : i < 64) : lb (x <<< ((1 : Int32).toInt64 &&& 63)) i = (decide (1 ≤ i) && lb x (i - 1)) := by
  show (x.toBitVec <<< (((1 : Int32).toInt64 &&& 63).toBitVec.smod 64).toNat).getLsbD i = _
  rw [show (((1 : Int32).toInt64 &&& 63).toBitVec.smod 64).toNat = 1 by decide, BitVec.getLsbD_shiftLeft, decide_eq_true hi, Bool.true_and]
  by_cases h : 1 ≤ i
  · rw [decide_eq_true h, decide_eq_false (by omega)]; rfl
  · rw [decide_eq_false h, decide_eq_true (by omega)]; rfl
theorem lb_shr (x : Int64) (i : Nat) : lb ((x.toUInt64 >>> ((1 : Int32).toInt64.toUInt64 &&& Int64.toUInt64 63)).toInt64) i = lb x (i + 1) := by
  have e : (x.toUInt64 >>> ((1 : Int32).toInt64.toUInt64 &&& Int64.toUInt64 63)).toInt64.toBitVec = x.toBitVec >>> 1 := by
    have h : (((1 : Int32).toInt64.toUInt64 &&& Int64.toUInt64 63).toBitVec % 64).toNat = 1 := by decide
    rw [← h]
    exact UInt64.toBitVec_shiftRight _ _
  unfold lb
  rw [e, BitVec.getLsbD_ushiftRight, Nat.add_comm]
theorem lb_cnt : ∀ n, n < 64 → (((nI n).toInt64 &&& 63).toBitVec.smod 64).toNat = n := by decide +kernel
theorem lb_ssh (x : Int64) {c : Nat} (hc : c < 64) : ((x >>> ((nI c).toInt64 &&& 63)) &&& 1) = 0 ↔ lb x c = false := by
  have h0 : lb (x >>> ((nI c).toInt64 &&& 63)) 0 = lb x c := by
    show (x.toBitVec.sshiftRight (((nI c).toInt64 &&& 63).toBitVec.smod 64).toNat).getLsbD 0 = _
    rw [lb_cnt c hc, BitVec.getLsbD_sshiftRight, if_pos (by omega), decide_eq_false (by omega : ¬ 64 ≤ 0)]
    simp [lb]
  constructor
  · intro h
    have : lb ((x >>> ((nI c).toInt64 &&& 63)) &&& 1) 0 = false := by rw [h]; exact lb_0 0
    rw [lb_and, h0, lb_1 0 (by omega)] at this
    simpa using this
  · intro h
    refine lb_ext fun i hi => ?_
    rw [lb_and, lb_1 i hi, lb_0]
    by_cases z : i = 0
    · rw [z, h0, h]; rfl
    · rw [decide_eq_false z, Bool.and_false]
theorem lb_at (x : Int64) {c : Nat} (hc : c < 49) : x &&& ((1 : Int64) <<< ((nI c).toInt64 &&& 63)) = 0 ↔ lb x c = false := by
  constructor
  · intro h
    have : lb (x &&& ((1 : Int64) <<< ((nI c).toInt64 &&& 63))) c = false := by rw [h]; exact lb_0 c
    rw [lb_and, lb_bit c hc c (by omega)] at this
    simpa using this
  · intro h
    refine lb_ext fun i hi => ?_
    rw [lb_and, lb_bit c hc i hi, lb_0]
    by_cases z : i = c
    · rw [z, h]; rfl
    · rw [decide_eq_false z, Bool.and_false]
theorem uL_s {f : RowL} {k : Nat} {x : Int64} : vp_updL f k x k = x := pk_uLs
theorem uL_n {f : RowL} {k j : Nat} {x : Int64} (h : j ≠ k) : vp_updL f k x j = f j := pk_uLn h
def dst (X Y : Nat) : Nat := (X - 30) + (30 - X) + ((Y - 30) + (30 - Y))
def CR (k : Nat) (bu gd : RowL) (bb : Row) : Prop :=
  (∀ X Y, X ≤ 60 → Y ≤ 60 → (bb (61 * Y + X) = 0 ∨ bb (61 * Y + X) = 1 ∨ bb (61 * Y + X) = 2) ∧ (bb (61 * Y + X) = 1 → dst X Y ≤ k)) ∧
  (∀ c r, c < 49 → r < 49 → (bb (61 * (r + 6) + (c + 6)) = 1 ↔ lb (bu r) c = true) ∧ (bb (61 * (r + 6) + (c + 6)) = 2 ↔ lb (gd r) c = true)) ∧
  (∀ c r, r < 49 → 49 ≤ c → lb (bu r) c = false)
def WL (wa wx wy wt : Row) (sq : Nat) : Prop := ∀ k, k < sq → ∃ X Y, X ≤ 60 ∧ Y ≤ 60 ∧ wx k = crd X ∧ wy k = crd Y ∧ wa (3 * k) = crd X ∧ wa (3 * k + 1) = crd Y ∧ wt k = wa (3 * k + 2)
theorem crd_in : ∀ X, X < 61 → ((-24 ≤ crd X ∧ crd X ≤ 24) ↔ (6 ≤ X ∧ X ≤ 54)) := by decide +kernel
theorem crd_24 : ∀ c, c < 49 → crd (c + 6) + 24 = nI c := by decide +kernel
theorem wall_ok {wa wx wy wt : Row} {sq : Nat} (h : WL wa wx wy wt sq) : WallOK wa sq := fun k hk => by
  obtain ⟨X, Y, hX, hY, -, -, e1, e2, -⟩ := h k hk
  have e : 61 * (wa (3 * k + 1) + 30) + wa (3 * k) + 30 = nI (61 * Y + X) := by rw [e1, e2, crd_sq]
  have es : sqM wa k = 61 * Y + X := by
    unfold sqM
    rw [e, nI_clamp (by omega)]
  rw [es]
  exact ⟨e, by omega⟩
theorem sqM_eq {wa : Row} {k X Y : Nat} (hX : X ≤ 60) (hY : Y ≤ 60) (e1 : wa (3 * k) = crd X) (e2 : wa (3 * k + 1) = crd Y) : sqM wa k = 61 * Y + X := by
  unfold sqM
  rw [e1, e2, crd_sq, nI_clamp (by omega)]
theorem int_12 : (1 : Int32) ≠ 2 ∧ (0 : Int32) ≠ 1 ∧ (0 : Int32) ≠ 2 ∧ (3 : Int32) ≠ 0 ∧ (3 : Int32) ≠ 1 ∧ (3 : Int32) ≠ 2 ∧ (2 : Int32) ≠ 0 ∧ (1 : Int32) ≠ 0 := by decide
/-- guards on one square -/
theorem cr_guard {k : Nat} {bu gd : RowL} {bb : Row} (h : CR k bu gd bb) {c r : Nat} (hc : c < 49) (hr : r < 49) (hb : lb (bu r) c = false) : CR k bu (vp_updL gd r (gd r ||| ((1 : Int64) <<< ((nI c).toInt64 &&& 63)))) (upd bb (61 * (r + 6) + (c + 6)) 2) := by
  obtain ⟨h1, h2, h3⟩ := h
  refine ⟨fun X Y hX hY => ?_, fun c' r' hc' hr' => ?_, h3⟩
  · by_cases z : 61 * Y + X = 61 * (r + 6) + (c + 6)
    · rw [z, pk_us]
      exact ⟨Or.inr (Or.inr rfl), fun q => absurd q (by decide)⟩
    · rw [pk_un z]
      exact h1 X Y hX hY
  · by_cases z : 61 * (r' + 6) + (c' + 6) = 61 * (r + 6) + (c + 6)
    · have e1 : r' = r := by omega
      have e2 : c' = c := by omega
      subst e1; subst e2
      rw [pk_us, uL_s, lb_or, lb_bit c' hc c' (by omega), decide_eq_true rfl, Bool.or_true, hb]
      exact ⟨⟨fun q => absurd q (by decide), fun q => by cases q⟩, ⟨fun _ => rfl, fun _ => rfl⟩⟩
    · rw [pk_un z]
      refine ⟨(h2 c' r' hc' hr').1, ?_⟩
      by_cases e : r' = r
      · subst e
        have e2 : c' ≠ c := fun q => z (by rw [q])
        rw [uL_s, lb_or, lb_bit c hc c' (by omega), decide_eq_false e2, Bool.or_false]
        exact (h2 c' r' hc' hr').2
      · rw [uL_n e]
        exact (h2 c' r' hc' hr').2
theorem cr_far {k : Nat} {bu gd : RowL} {bb : Row} (h : CR k bu gd bb) {X Y : Nat} (hX : X ≤ 60) (hY : Y ≤ 60) (hout : ¬ ((6 ≤ X ∧ X ≤ 54) ∧ (6 ≤ Y ∧ Y ≤ 54))) : CR k bu gd (upd bb (61 * Y + X) 2) := by
  obtain ⟨h1, h2, h3⟩ := h
  refine ⟨fun X' Y' hX' hY' => ?_, fun c' r' hc' hr' => ?_, h3⟩
  · by_cases z : 61 * Y' + X' = 61 * Y + X
    · rw [z, pk_us]
      exact ⟨Or.inr (Or.inr rfl), fun q => absurd q (by decide)⟩
    · rw [pk_un z]
      exact h1 X' Y' hX' hY'
  · rw [pk_un (by omega)]
    exact h2 c' r' hc' hr'
theorem upd_same {f : Row} {k : Nat} {x : Int32} (h : f k = x) : upd f k x = f := by
  funext j
  by_cases q : j = k
  · subst q; rw [pk_us, h]
  · rw [pk_un q]
/-- the guards of a tick -/
theorem build_eq {k0 sq : Nat} {bu : RowL} {wa wx wy wt : Row} (hk0 : k0 ≤ 23) (hW : WL wa wx wy wt sq) (t lo : Int32) {gd : RowL} {bb : Row} (h : CR k0 bu gd bb) : ∀ k, k ≤ sq → (pgA bu wx wy wt t (lo, gd) k).1 = (bldA wa t (bb, lo) k).2 ∧ CR k0 bu (pgA bu wx wy wt t (lo, gd) k).2 (bldA wa t (bb, lo) k).1
  | 0, _ => ⟨rfl, h⟩
  | k + 1, hk => by
    obtain ⟨e, hc⟩ := build_eq hk0 hW t lo h k (by omega)
    obtain ⟨X, Y, hX, hY, w1, w2, w3, w4, w5⟩ := hW k (by omega)
    rw [pgA, bldA]
    generalize pgA bu wx wy wt t (lo, gd) k = x at *
    generalize bldA wa t (bb, lo) k = q at *
    rw [w5]
    by_cases ht : wa (3 * k + 2) = t
    · rw [if_pos ht]
      have es : sqM wa k = 61 * Y + X := sqM_eq hX hY w3 w4
      unfold bldS
      rw [es]
      by_cases hin : (6 ≤ X ∧ X ≤ 54) ∧ (6 ≤ Y ∧ Y ≤ 54)
      · rw [if_pos ⟨ht, by rw [w1]; exact (crd_in X (by omega)).mpr hin.1, by rw [w2]; exact (crd_in Y (by omega)).mpr hin.2⟩]
        obtain ⟨c, rfl⟩ : ∃ c, X = c + 6 := ⟨X - 6, by omega⟩
        obtain ⟨r, rfl⟩ : ∃ r, Y = r + 6 := ⟨Y - 6, by omega⟩
        rw [w1, w2, crd_24 c (by omega), crd_24 r (by omega), nI_clamp (by omega)]
        have hcell := (hc.2.1 c r (by omega) (by omega)).1
        unfold pgS
        by_cases hb : lb (bu r) c = true
        · rw [if_neg (fun z => by rw [(lb_at _ (by omega)).mp ((cmp_eq0 _ _).mp z)] at hb; cases hb), if_pos (hcell.mpr hb)]
          refine ⟨by show x.1 + 1 = q.2 + 1; rw [e], ?_⟩
          show CR k0 bu x.2 (upd q.1 (61 * (r + 6) + (c + 6)) 1)
          rw [upd_same (hcell.mpr hb)]
          exact hc
        · have hb : lb (bu r) c = false := by
            cases z : lb (bu r) c
            · rfl
            · exact absurd z hb
          rw [if_pos ((cmp_eq0 _ _).mpr ((lb_at _ (by omega)).mpr hb)), if_neg (fun z => by rw [hcell.mp z] at hb; cases hb)]
          exact ⟨by show x.1 = q.2 + 0; rw [e, Int32.add_zero], cr_guard hc (by omega) (by omega) hb⟩
      · rw [if_neg (fun z => hin ⟨(crd_in X (by omega)).mp (by rw [← w1]; exact z.2.1), (crd_in Y (by omega)).mp (by rw [← w2]; exact z.2.2)⟩)]
        rw [if_neg (fun z => by
          have := (hc.1 X Y hX hY).2 z
          unfold dst at this
          omega)]
        exact ⟨by show x.1 = q.2 + 0; rw [e, Int32.add_zero], cr_far hc hX hY hin⟩
    · rw [if_neg (fun z => ht z.1), if_neg ht]
      exact ⟨e, hc⟩
/-- the reference's spread: what each square comes to -/
theorem tch_is {bb : Row} {X Y : Nat} (hX : X ≤ 60) (hY : Y ≤ 60) : tchB bb X Y = true ↔ ((X ≠ 0 ∧ bb (61 * Y + (X - 1)) = 1) ∨ (X < 60 ∧ bb (61 * Y + (X + 1)) = 1) ∨ (Y ≠ 0 ∧ bb (61 * (Y - 1) + X) = 1) ∨ (Y < 60 ∧ bb (61 * (Y + 1) + X) = 1)) := by
  unfold tchB
  rw [decide_eq_true_iff, crd_le (by omega), crd_ge (by omega), crd_le (by omega), crd_ge (by omega), Nat.not_le, Nat.not_le]
def caught (bb : Row) (j : Nat) : Prop := bb j = 0 ∧ tchB bb (j % 61) (j / 61) = true
def PQ (bb : Row) (N : Nat) (q : RBs) : Prop := (∀ j, (j < N ∧ caught bb j → q.1 j = 3) ∧ (¬ (j < N ∧ caught bb j) → q.1 j = bb j)) ∧ (q.2 = true ↔ ∃ j, j < N ∧ caught bb j)
theorem pq_one {bb : Row} {N : Nat} {q : RBs} (h : PQ bb N q) (j : Nat) : q.1 j = 1 ↔ bb j = 1 := by
  by_cases z : j < N ∧ caught bb j
  · rw [(h.1 j).1 z]
    exact ⟨fun w => absurd w (by decide), fun w => by rw [z.2.1] at w; exact absurd w (by decide)⟩
  · rw [(h.1 j).2 z]
theorem pq_cell {bb : Row} {X Y : Nat} (hX : X ≤ 60) (hY : Y ≤ 60) {q : RBs} (h : PQ bb (61 * Y + X) q) : PQ bb (61 * Y + X + 1) (cellS X Y q) := by
  have e1 : (61 * Y + X) % 61 = X := by omega
  have e2 : (61 * Y + X) / 61 = Y := by omega
  have hv : q.1 (61 * Y + X) = bb (61 * Y + X) := (h.1 _).2 (fun z => by omega)
  have ht : tchB q.1 X Y = true ↔ tchB bb X Y = true := by
    rw [tch_is hX hY, tch_is hX hY, pq_one h, pq_one h, pq_one h, pq_one h]
  unfold cellS
  by_cases z : q.1 (61 * Y + X) = 0 ∧ tchB q.1 X Y = true
  · rw [if_pos z]
    have hcg : caught bb (61 * Y + X) := ⟨by rw [← hv]; exact z.1, by rw [e1, e2]; exact ht.mp z.2⟩
    refine ⟨fun j => ?_, ⟨fun _ => ⟨_, Nat.lt_succ_self _, hcg⟩, fun _ => rfl⟩⟩
    by_cases w : j = 61 * Y + X
    · rw [w]
      refine ⟨fun _ => pk_us, fun g => absurd ⟨Nat.lt_succ_self _, hcg⟩ g⟩
    · show (_ → upd q.1 (61 * Y + X) 3 j = 3) ∧ (_ → upd q.1 (61 * Y + X) 3 j = bb j)
      rw [pk_un w]
      exact ⟨fun g => (h.1 j).1 ⟨by omega, g.2⟩, fun g => (h.1 j).2 (fun g2 => g ⟨by omega, g2.2⟩)⟩
  · rw [if_neg z]
    have hcg : ¬ caught bb (61 * Y + X) := fun g => z ⟨by rw [hv]; exact g.1, ht.mpr (by have := g.2; rw [e1, e2] at this; exact this)⟩
    refine ⟨fun j => ?_, ?_⟩
    · by_cases w : j = 61 * Y + X
      · rw [w]
        exact ⟨fun g => absurd g.2 hcg, fun _ => hv⟩
      · exact ⟨fun g => (h.1 j).1 ⟨by omega, g.2⟩, fun g => (h.1 j).2 (fun g2 => g ⟨by omega, g2.2⟩)⟩
    · rw [h.2]
      constructor
      · rintro ⟨j, g1, g2⟩
        exact ⟨j, by omega, g2⟩
      · rintro ⟨j, g1, g2⟩
        refine ⟨j, ?_, g2⟩
        by_cases w : j = 61 * Y + X
        · rw [w] at g2; exact absurd g2 hcg
        · omega
theorem pq_row {bb : Row} {Y : Nat} (hY : Y ≤ 60) {q : RBs} (h : PQ bb (61 * Y) q) : ∀ X, X ≤ 61 → PQ bb (61 * Y + X) (bxA q Y X)
  | 0, _ => h
  | X + 1, hX => pq_cell (by omega) hY (pq_row hY h X (by omega))
theorem pq_all {bb : Row} {w : Nat} (hw : w = 61) : ∀ Y, Y ≤ 61 → PQ bb (61 * Y) (byA w (bb, false) Y)
  | 0, _ => ⟨fun j => ⟨fun g => by omega, fun _ => rfl⟩, ⟨fun g => (by cases g), fun ⟨j, g, _⟩ => by omega⟩⟩
  | Y + 1, hY => by
    have h : PQ bb (61 * Y + w) (bxA (byA w (bb, false) Y) Y w) := pq_row (show Y ≤ 60 by omega) (pq_all hw Y (by omega)) w (by omega)
    rw [show 61 * (Y + 1) = 61 * Y + w by omega]
    exact h
theorem one_of {bb : Row} {w : Nat} (hw : w = 61) {X Y : Nat} (hX : X ≤ 60) (hY : Y ≤ 60) (h3 : bb (61 * Y + X) ≠ 3) : (bb (61 * Y + X) = 0 ∧ tchB bb X Y = true → oneF (byA w (bb, false) w).1 3721 (61 * Y + X) = 1) ∧ (¬ (bb (61 * Y + X) = 0 ∧ tchB bb X Y = true) → oneF (byA w (bb, false) w).1 3721 (61 * Y + X) = bb (61 * Y + X)) := by
  have h := pq_all (bb := bb) hw w (by omega)
  have e1 : (61 * Y + X) % 61 = X := by omega
  have e2 : (61 * Y + X) / 61 = Y := by omega
  have hl : 61 * Y + X < 61 * w := by omega
  have hc : caught bb (61 * Y + X) ↔ (bb (61 * Y + X) = 0 ∧ tchB bb X Y = true) := by unfold caught; rw [e1, e2]
  generalize byA w (bb, false) w = q at *
  unfold oneF
  rw [if_pos (show 61 * Y + X < 3721 by omega)]
  constructor
  · intro z
    rw [(h.1 _).1 ⟨hl, hc.mpr z⟩, if_pos rfl]
  · intro z
    rw [(h.1 _).2 (fun g => z (hc.mp g.2)), if_neg h3]
/-- the class's spread, a bit -/
theorem rowI_up {bu : RowL} {k : Nat} (hk : k < 49) : rowI bu (nI k - 1) = if k = 0 then 0 else bu (k - 1) := by
  unfold rowI
  by_cases h : k = 0
  · subst h
    rw [if_pos (by decide), if_pos rfl]
  · rw [if_neg h, show nI k - 1 = nI (k - 1) from pk_sub (a := k) (b := 1) (by omega), if_neg (nI_pos (by omega)), if_pos (show nI (k - 1) < 49 from (nI_ltI (b := 49) (by omega) (by omega)).mpr (by omega)), nI_clamp (by omega)]
theorem rowI_dn {bu : RowL} {k : Nat} (hk : k < 49) : rowI bu (nI (k + 1)) = if k + 1 < 49 then bu (k + 1) else 0 := by
  unfold rowI
  rw [if_neg (nI_pos (by omega)), nI_clamp (by omega)]
  by_cases h : k + 1 < 49
  · rw [if_pos h, if_pos (show nI (k + 1) < 49 from (nI_ltI (b := 49) (by omega) (by omega)).mpr h)]
  · rw [if_neg h, if_neg (show ¬ nI (k + 1) < 49 from fun z => h ((nI_ltI (b := 49) (by omega) (by omega)).mp z))]
theorem lb_spr {bu gd : RowL} {r i : Nat} (hr : r < 49) (hi : i < 64) : lb (sprR bu gd r) i = true ↔ (lb (bu r) i = true ∨ (((1 ≤ i ∧ lb (bu r) (i - 1) = true) ∨ lb (bu r) (i + 1) = true ∨ (r ≠ 0 ∧ lb (bu (r - 1)) i = true) ∨ (r + 1 < 49 ∧ lb (bu (r + 1)) i = true)) ∧ lb (gd r) i = false)) := by
  unfold sprR
  rw [lb_or, lb_and, lb_or, lb_or, lb_or, lb_shl _ hi, lb_shr, lb_not _ hi, rowI_up hr, rowI_dn hr]
  have e1 : lb (if r = 0 then 0 else bu (r - 1)) i = true ↔ (r ≠ 0 ∧ lb (bu (r - 1)) i = true) := by
    by_cases h : r = 0
    · rw [if_pos h, lb_0]; exact ⟨fun z => (by cases z), fun z => absurd h z.1⟩
    · rw [if_neg h]; exact ⟨fun z => ⟨h, z⟩, fun z => z.2⟩
  have e2 : lb (if r + 1 < 49 then bu (r + 1) else 0) i = true ↔ (r + 1 < 49 ∧ lb (bu (r + 1)) i = true) := by
    by_cases h : r + 1 < 49
    · rw [if_pos h]; exact ⟨fun z => ⟨h, z⟩, fun z => z.2⟩
    · rw [if_neg h, lb_0]; exact ⟨fun z => (by cases z), fun z => absurd z.1 h⟩
  rw [← e1, ← e2]
  simp only [Bool.or_eq_true, Bool.and_eq_true, decide_eq_true_eq, Bool.not_eq_true', or_assoc]
theorem spr_cell {k : Nat} (hk : k ≤ 23) {bu gd : RowL} {bb : Row} (h : CR k bu gd bb) {c r : Nat} (hc : c < 49) (hr : r < 49) : lb (sprR bu gd r) c = true ↔ (bb (61 * (r + 6) + (c + 6)) = 1 ∨ (bb (61 * (r + 6) + (c + 6)) = 0 ∧ tchB bb (c + 6) (r + 6) = true)) := by
  obtain ⟨h1, h2, h3⟩ := h
  have far : ∀ X Y, X ≤ 60 → Y ≤ 60 → ¬ dst X Y ≤ 23 → ¬ bb (61 * Y + X) = 1 := fun X Y a b z q => z (Nat.le_trans ((h1 X Y a b).2 q) hk)
  have nL : (1 ≤ c ∧ lb (bu r) (c - 1) = true) ↔ (c + 6 ≠ 0 ∧ bb (61 * (r + 6) + (c + 6 - 1)) = 1) := by
    by_cases z : 1 ≤ c
    · have := (h2 (c - 1) r (by omega) hr).1
      rw [show c - 1 + 6 = c + 6 - 1 by omega] at this
      rw [this]
      exact ⟨fun g => ⟨by omega, g.2⟩, fun g => ⟨z, g.2⟩⟩
    · refine ⟨fun g => absurd g.1 z, fun g => absurd g.2 (far (c + 6 - 1) (r + 6) (by omega) (by omega) (by unfold dst; omega))⟩
  have nR : lb (bu r) (c + 1) = true ↔ (c + 6 < 60 ∧ bb (61 * (r + 6) + (c + 6 + 1)) = 1) := by
    by_cases z : c + 1 < 49
    · have := (h2 (c + 1) r z hr).1
      rw [show c + 1 + 6 = c + 6 + 1 by omega] at this
      rw [← this]
      exact ⟨fun g => ⟨by omega, g⟩, fun g => g.2⟩
    · rw [h3 (c + 1) r hr (by omega)]
      exact ⟨fun g => (by cases g), fun g => absurd g.2 (far (c + 6 + 1) (r + 6) (by omega) (by omega) (by unfold dst; omega))⟩
  have nU : (r ≠ 0 ∧ lb (bu (r - 1)) c = true) ↔ (r + 6 ≠ 0 ∧ bb (61 * (r + 6 - 1) + (c + 6)) = 1) := by
    by_cases z : r ≠ 0
    · have := (h2 c (r - 1) hc (by omega)).1
      rw [show r - 1 + 6 = r + 6 - 1 by omega] at this
      rw [this]
      exact ⟨fun g => ⟨by omega, g.2⟩, fun g => ⟨z, g.2⟩⟩
    · refine ⟨fun g => absurd g.1 z, fun g => absurd g.2 (far (c + 6) (r + 6 - 1) (by omega) (by omega) (by unfold dst; omega))⟩
  have nD : (r + 1 < 49 ∧ lb (bu (r + 1)) c = true) ↔ (r + 6 < 60 ∧ bb (61 * (r + 6 + 1) + (c + 6)) = 1) := by
    by_cases z : r + 1 < 49
    · have := (h2 c (r + 1) hc z).1
      rw [show r + 1 + 6 = r + 6 + 1 by omega] at this
      rw [this]
      exact ⟨fun g => ⟨by omega, g.2⟩, fun g => ⟨z, g.2⟩⟩
    · refine ⟨fun g => absurd g.1 z, fun g => absurd g.2 (far (c + 6) (r + 6 + 1) (by omega) (by omega) (by unfold dst; omega))⟩
  have hcell := h2 c r hc hr
  have hv := (h1 (c + 6) (r + 6) (by omega) (by omega)).1
  rw [lb_spr hr (by omega), nL, nR, nU, nD, ← tch_is (by omega) (by omega), ← hcell.1]
  constructor
  · rintro (z | ⟨z1, z2⟩)
    · exact Or.inl z
    · rcases hv with v | v | v
      · exact Or.inr ⟨v, z1⟩
      · exact Or.inl v
      · rw [hcell.2.mp v] at z2; cases z2
  · rintro (z | ⟨z1, z2⟩)
    · exact Or.inl z
    · refine Or.inr ⟨z2, ?_⟩
      cases w : lb (gd r) c
      · rfl
      · have := hcell.2.mpr w
        rw [z1] at this
        exact absurd this (by decide)
theorem spr_top {k : Nat} (hk : k ≤ 23) {bu gd : RowL} {bb : Row} (h : CR k bu gd bb) {c r : Nat} (hc : 49 ≤ c) (hr : r < 49) : lb (sprR bu gd r) c = false := by
  by_cases h64 : c < 64
  · cases w : lb (sprR bu gd r) c
    · rfl
    · exfalso
      rcases (lb_spr hr h64).mp w with z | ⟨z, -⟩
      · rw [h.2.2 c r hr hc] at z; cases z
      · rcases z with z | z | z | z
        · by_cases e : c = 49
          · have g := (h.2.1 48 r (by omega) hr).1.mpr (by rw [e] at z; exact z.2)
            have := (h.1 (48 + 6) (r + 6) (by omega) (by omega)).2 g
            unfold dst at this
            omega
          · rw [h.2.2 (c - 1) r hr (by omega)] at z; cases z.2
        · rw [h.2.2 (c + 1) r hr (by omega)] at z; cases z
        · rw [h.2.2 c (r - 1) (by omega) hc] at z; cases z.2
        · rw [h.2.2 c (r + 1) z.1 hc] at z; cases z.2
  · exact lb_big (by omega)
theorem cr_no3 {k : Nat} {bu gd : RowL} {bb : Row} (h : CR k bu gd bb) {X Y : Nat} (hX : X ≤ 60) (hY : Y ≤ 60) : bb (61 * Y + X) ≠ 3 := fun z => by
  rcases (h.1 X Y hX hY).1 with q | q | q <;> rw [z] at q <;> exact absurd q (by decide)
/-- a spread keeps the picture -/
theorem cr_next {k w : Nat} (hk : k ≤ 23) (hw : w = 61) {bu gd bu' : RowL} {bb : Row} (h : CR k bu gd bb) (hbu : ∀ r, r < 49 → bu' r = sprR bu gd r) : CR (k + 1) bu' gd (oneF (byA w (bb, false) w).1 3721) := by
  have hone := fun X Y (hX : X ≤ 60) (hY : Y ≤ 60) => one_of hw hX hY (cr_no3 h hX hY)
  refine ⟨fun X Y hX hY => ?_, fun c r hc hr => ?_, fun c r hr hc => ?_⟩
  · obtain ⟨a, b⟩ := hone X Y hX hY
    by_cases z : bb (61 * Y + X) = 0 ∧ tchB bb X Y = true
    · rw [a z]
      refine ⟨Or.inr (Or.inl rfl), fun _ => ?_⟩
      rcases (tch_is hX hY).mp z.2 with g | g | g | g
      · have := (h.1 (X - 1) Y (by omega) hY).2 g.2
        unfold dst at *
        omega
      · have := (h.1 (X + 1) Y (by omega) hY).2 g.2
        unfold dst at *
        omega
      · have := (h.1 X (Y - 1) hX (by omega)).2 g.2
        unfold dst at *
        omega
      · have := (h.1 X (Y + 1) hX (by omega)).2 g.2
        unfold dst at *
        omega
    · rw [b z]
      exact ⟨(h.1 X Y hX hY).1, fun g => Nat.le_succ_of_le ((h.1 X Y hX hY).2 g)⟩
  · obtain ⟨a, b⟩ := hone (c + 6) (r + 6) (by omega) (by omega)
    rw [hbu r hr, spr_cell hk h hc hr]
    have hcell := h.2.1 c r hc hr
    by_cases z : bb (61 * (r + 6) + (c + 6)) = 0 ∧ tchB bb (c + 6) (r + 6) = true
    · rw [a z]
      refine ⟨⟨fun _ => Or.inr z, fun _ => rfl⟩, ⟨fun g => absurd g (by decide), fun g => ?_⟩⟩
      have := hcell.2.mpr g
      rw [z.1] at this
      exact absurd this (by decide)
    · rw [b z]
      exact ⟨⟨fun g => Or.inl g, fun g => g.elim id (fun g => absurd g z)⟩, hcell.2⟩
  · rw [hbu r hr]
    exact spr_top hk h hc hr
theorem more_is {bu gd : RowL} : ∀ k, moreA bu gd k = true ↔ ∃ r, r < k ∧ sprR bu gd r ≠ bu r
  | 0 => ⟨fun h => (by cases h), fun ⟨r, h, _⟩ => by omega⟩
  | k + 1 => by
    rw [moreA]
    by_cases z : sprR bu gd k = bu k
    · rw [if_pos ((cmp_eq0 _ _).mpr z), more_is k]
      refine ⟨fun ⟨r, a, b⟩ => ⟨r, by omega, b⟩, fun ⟨r, a, b⟩ => ⟨r, ?_, b⟩⟩
      by_cases e : r = k
      · rw [e] at b; exact absurd z b
      · omega
    · rw [if_neg (fun g => z ((cmp_eq0 _ _).mp g))]
      exact ⟨fun _ => ⟨k, Nat.lt_succ_self k, z⟩, fun _ => rfl⟩
theorem more_eq {k w : Nat} (hk : k ≤ 23) (hw : w = 61) {bu gd : RowL} {bb : Row} (h : CR k bu gd bb) : moreA bu gd 49 = true ↔ (byA w (bb, false) w).2 = true := by
  rw [more_is, (pq_all hw w (by omega)).2]
  constructor
  · rintro ⟨r, hr, hne⟩
    have : ∃ i, i < 64 ∧ lb (sprR bu gd r) i ≠ lb (bu r) i := Classical.byContradiction fun q => hne (lb_ext fun i hi => Classical.byContradiction fun g => q ⟨i, hi, g⟩)
    obtain ⟨i, hi, g⟩ := this
    have hi49 : i < 49 := Nat.not_le.mp fun z => g (by rw [spr_top hk h z hr, h.2.2 i r hr z])
    have hs := spr_cell hk h hi49 hr
    have hcell := (h.2.1 i r hi49 hr).1
    have hb : lb (bu r) i = false := by
      cases z : lb (bu r) i
      · rfl
      · exfalso
        apply g
        rw [z]
        exact hs.mpr (Or.inl (hcell.mpr z))
    have hsp : lb (sprR bu gd r) i = true := by
      cases z : lb (sprR bu gd r) i
      · rw [z, hb] at g; exact absurd rfl g
      · rfl
    rcases hs.mp hsp with z | z
    · rw [hcell.mp z] at hb; cases hb
    · refine ⟨61 * (r + 6) + (i + 6), by omega, ?_⟩
      unfold caught
      rw [show (61 * (r + 6) + (i + 6)) % 61 = i + 6 by omega, show (61 * (r + 6) + (i + 6)) / 61 = r + 6 by omega]
      exact z
  · rintro ⟨j, hj, hc⟩
    have hX : j % 61 ≤ 60 := by omega
    have hY : j / 61 ≤ 60 := by omega
    have ej : 61 * (j / 61) + j % 61 = j := by omega
    have hd : dst (j % 61) (j / 61) ≤ 24 := by
      rcases (tch_is hX hY).mp hc.2 with g | g | g | g
      · have := (h.1 (j % 61 - 1) (j / 61) (by omega) hY).2 g.2
        unfold dst at *
        omega
      · have := (h.1 (j % 61 + 1) (j / 61) (by omega) hY).2 g.2
        unfold dst at *
        omega
      · have := (h.1 (j % 61) (j / 61 - 1) hX (by omega)).2 g.2
        unfold dst at *
        omega
      · have := (h.1 (j % 61) (j / 61 + 1) hX (by omega)).2 g.2
        unfold dst at *
        omega
    obtain ⟨c, hc6⟩ : ∃ c, j % 61 = c + 6 := ⟨j % 61 - 6, by unfold dst at hd; omega⟩
    obtain ⟨r, hr6⟩ : ∃ r, j / 61 = r + 6 := ⟨j / 61 - 6, by unfold dst at hd; omega⟩
    have hc49 : c < 49 := by unfold dst at hd; omega
    have hr49 : r < 49 := by unfold dst at hd; omega
    rw [hc6, hr6] at ej
    have hz : bb (61 * (r + 6) + (c + 6)) = 0 ∧ tchB bb (c + 6) (r + 6) = true := by
      rw [ej, ← hc6, ← hr6]
      exact hc
    refine ⟨r, hr49, fun e => ?_⟩
    have a := (spr_cell hk h hc49 hr49).mpr (Or.inr hz)
    rw [e] at a
    have := (h.2.1 c r hc49 hr49).1.mpr a
    rw [hz.1] at this
    exact absurd this (by decide)

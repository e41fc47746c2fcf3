/-! the search: the class's recursion beside the reference's loop -/
abbrev kLk (S : Km) : Int32 := S.2.2.2.2.2.1
abbrev kSp (S : Km) : Bool := S.2.2.2.2.2.2.1
abbrev kBs (S : Km) : Int32 := S.2.2.2.2.2.2.2.1
abbrev kBo (S : Km) : Int32 := S.2.2.2.2.2.2.2.2.1
abbrev kTr (S : Km) : Row := S.2.2.2.2.2.2.2.2.2.1
abbrev kFa (S : Km) : Row := S.2.2.2.2.2.2.2.2.2.2.1
abbrev kGa (S : Km) : Row := S.2.2.2.2.2.2.2.2.2.2.2.1
abbrev kLa (S : Km) : Row := S.2.2.2.2.2.2.2.2.2.2.2.2.1
abbrev kBz (S : Km) : Row := S.2.2.2.2.2.2.2.2.2.2.2.2.2
def GoM (n : Nat) (bd : Int32) (ow : Row) (ke : Bool) (pr ne wo pz : Row) (X Y : Km) : Prop := ∃ N : Nat, itM n bd ow ke pr ne wo pz X N = Y ∧ ∀ k, k < N → ¬ doneM (itM n bd ow ke pr ne wo pz X k) ∧ okM (itM n bd ow ke pr ne wo pz X k)
section GOES
variable {n : Nat} {bd : Int32} {ow : Row} {ke : Bool} {pr ne wo pz : Row} {X Y Z S : Km}
theorem GoM.refl (X : Km) : GoM n bd ow ke pr ne wo pz X X := ⟨0, rfl, fun k h => absurd h (Nat.not_lt_zero _)⟩
theorem itM_add (X : Km) (a : Nat) : ∀ b, itM n bd ow ke pr ne wo pz X (a + b) = itM n bd ow ke pr ne wo pz (itM n bd ow ke pr ne wo pz X a) b
  | 0 => rfl
  | b + 1 => by
    show stepM n bd ow ke pr ne wo pz (itM n bd ow ke pr ne wo pz X (a + b)) = stepM n bd ow ke pr ne wo pz (itM n bd ow ke pr ne wo pz (itM n bd ow ke pr ne wo pz X a) b)
    rw [itM_add X a b]
theorem GoM.trans (h1 : GoM n bd ow ke pr ne wo pz X Y) (h2 : GoM n bd ow ke pr ne wo pz Y Z) : GoM n bd ow ke pr ne wo pz X Z := by
  obtain ⟨a, e1, p1⟩ := h1
  obtain ⟨b, e2, p2⟩ := h2
  refine ⟨a + b, by rw [itM_add, e1, e2], fun k hk => ?_⟩
  rcases Nat.lt_or_ge k a with q | q
  · exact p1 k q
  · obtain ⟨j, rfl⟩ : ∃ j, k = a + j := ⟨k - a, by omega⟩
    rw [itM_add, e1]
    exact p2 j (by omega)
theorem GoM.seekTo (h : GoM n bd ow ke pr ne wo pz X Y) (hd : doneM Y) : SeekTo n bd ow ke pr ne wo pz X Y := by
  obtain ⟨N, e, p⟩ := h
  refine ⟨N, e.symm, by rw [e]; exact hd, fun k hk => ?_⟩
  rcases Nat.lt_or_ge k N with q | q
  · exact (p k q).2
  · exfalso
    obtain ⟨j, rfl⟩ : ∃ j, k = N + j := ⟨k - N, by omega⟩
    exact hk (by rw [itM_stop (by rw [e]; exact hd) j, e]; exact hd)
theorem SeekTo.same (h1 : SeekTo n bd ow ke pr ne wo pz X Y) (h2 : SeekTo n bd ow ke pr ne wo pz X Z) : Y = Z := by
  obtain ⟨a, e1, d1, -⟩ := h1
  obtain ⟨b, e2, d2, -⟩ := h2
  rcases Nat.le_total a b with q | q
  · obtain ⟨j, rfl⟩ : ∃ j, b = a + j := ⟨b - a, by omega⟩
    rw [e1, e2, itM_stop d1 j]
  · obtain ⟨j, rfl⟩ : ∃ j, a = b + j := ⟨a - b, by omega⟩
    rw [e1, e2, itM_stop d2 j]
theorem GoM.one {t : Nat} (hT : S.1 = t) (h1 : 1 ≤ t) (h8 : t ≤ 8) (hs : kSp S = false) (hn : ¬ kTr S t < 0)
    (he : stepK n bd ow ke pr ne wo pz t S.2.2.2.2.1 (kLk S) false (kBs S) (kBo S) (kTr S) (kFa S) (kGa S) (kLa S) (kBz S) = Y) : GoM n bd ow ke pr ne wo pz S Y := by
  have h0 : ¬ S.1 = 0 := by omega
  have hsp : ¬ S.2.2.2.2.2.2.1 = true := by
    rw [show S.2.2.2.2.2.2.1 = false from hs]
    exact Bool.false_ne_true
  refine ⟨1, ?_, fun k hk => ?_⟩
  · show stepM n bd ow ke pr ne wo pz S = Y
    unfold stepM
    rw [if_neg h0, if_neg hsp, ← he, show S.2.2.2.2.2.2.1 = false from hs, hT]
  · have : k = 0 := by omega
    subst this
    refine ⟨fun q => q.elim h0 hsp, by show S.1 ≤ 8; omega, ?_⟩
    show ¬ kTr S S.1 < 0
    rw [hT]
    exact hn
end GOES
theorem upd_upd (f : Row) (k : Nat) (x y : Int32) : upd (upd f k x) k y = upd f k y := by
  funext j
  by_cases h : j = k
  · subst h; rw [pk_us, pk_us]
  · rw [pk_un h, pk_un h, pk_un h]
/-- what a goOn lays -/
def goV (v : Nat) : Int32 := if v = 0 then 1024 else nI v
theorem goF_nat {n t fr u : Nat} {tr fa ga : Row} (hf : freeI (nI n) (fa t) (ga t) = nI fr) (hfr : fr < 1024) (ht : tr t = nI u) (hu : subN u fr) : (if goN n t tr fa ga = 0 then 1024 else goN n t tr fa ga) = goV (nx 32 fr u) := by
  have e : goN n t tr fa ga = nI (nx 32 fr u) := by
    show nextW (freeI (nI n) (fa t) (ga t)) (tr t) = _
    rw [hf, ht, nextW_nat hfr hu]
  rw [e]
  unfold goV
  by_cases z : nx 32 fr u = 0
  · rw [if_pos z, z]; rfl
  · have : nx 32 fr u ≤ fr := subN_le (nx_next 32 fr u hu z).2
    rw [if_neg z, if_neg (nI_ne0 (by omega) (by omega))]
/-- the class's state beside the reference's -/
def SRel (b : Nat) (x : Ss) (S : Km) : Prop :=
  (∃ l, l ≤ b ∧ x.1 = nI l) ∧ kLk S = x.1 ∧ kSp S = x.2.2.2.1 ∧ kBs S = x.2.1 ∧ (x.2.1 = -1 ∨ ((∃ q, q ≤ 90 ∧ x.2.1 = nI q) ∧ kBo S = x.2.2.1 ∧ ∀ i, i < 8 → kBz S (i + 1) = x.2.2.2.2.2 i ∧ 0 ≤ x.2.2.2.2.2 i))
def LIn (n b t s fr m : Nat) (x : Ss) (S : Km) : Prop :=
  S.1 = t ∧ kSp S = false ∧ below n (kFa S t) ∧ kTr S t = nI s ∧ freeI (nI n) (kFa S t) (kGa S t) = nI fr ∧ fr ≤ allN n ∧ subN s fr ∧ kLa S t = nI m ∧ m ≤ 20 * t ∧ SRel b x S ∧ (∀ i, i + 1 < t → kTr S (i + 1) = x.2.2.2.2.1 i ∧ 0 ≤ x.2.2.2.2.1 i) ∧ (x.2.1 = -1 → s = 0 ∧ x.1 = nI (t - 1))
def LOut (n : Nat) (bd : Int32) (ow : Row) (ke : Bool) (pr ne wo pz : Row) (b t : Nat) (x X' : Ss) (S : Km) : Prop :=
  ∃ Y : Km, GoM n bd ow ke pr ne wo pz S Y ∧ SRel b X' Y ∧ X'.2.1 ≠ -1 ∧ (kSp Y = true ∨ (kSp Y = false ∧ Y.1 = t - 1 ∧ (∀ j, j < t → kFa Y j = kFa S j ∧ kGa Y j = kGa S j ∧ kLa Y j = kLa S j) ∧ (∀ i, i + 1 < t → X'.2.2.2.2.1 i = x.2.2.2.2.1 i) ∧ kTr Y (t - 1) = (if goN n (t - 1) (kTr S) (kFa S) (kGa S) = 0 then 1024 else goN n (t - 1) (kTr S) (kFa S) (kGa S)) ∧ ∀ j, j + 1 < t → kTr Y j = kTr S j))
section LEVELS
variable {n : Nat} {bd : Int32} {ow : Row} {ke : Bool} {pr ne wo pz : Row} {X Y Z S S1 : Km} {b t : Nat} {x x1 X' : Ss}
theorem LOut.back (ht : 1 ≤ t) (g : GoM n bd ow ke pr ne wo pz S S1) (hk : ∀ j, j < t → kFa S1 j = kFa S j ∧ kGa S1 j = kGa S j ∧ kLa S1 j = kLa S j) (htr : ∀ j, j < t → kTr S1 j = kTr S j) (hw : ∀ i, i + 1 < t → x1.2.2.2.2.1 i = x.2.2.2.2.1 i)
    (h : LOut n bd ow ke pr ne wo pz b t x1 X' S1) : LOut n bd ow ke pr ne wo pz b t x X' S := by
  obtain ⟨Y, g2, r, hne, h⟩ := h
  refine ⟨Y, g.trans g2, r, hne, h.imp id (fun ⟨h1, h2, h3, h4, h5, h6⟩ => ⟨h1, h2, fun j hj => ?_, fun i hi => (h4 i hi).trans (hw i hi), ?_, fun j hj => (h6 j hj).trans (htr j (by omega))⟩)⟩
  · obtain ⟨a1, a2, a3⟩ := h3 j hj
    obtain ⟨b1, b2, b3⟩ := hk j hj
    exact ⟨a1.trans b1, a2.trans b2, a3.trans b3⟩
  · have e : goN n (t - 1) (kTr S1) (kFa S1) (kGa S1) = goN n (t - 1) (kTr S) (kFa S) (kGa S) := by
      unfold goN
      rw [htr (t - 1) (by omega), (hk (t - 1) (by omega)).1, (hk (t - 1) (by omega)).2.1]
    rw [h5, e]
theorem lev_end (hn : n ≤ 10) (ht : 1 ≤ t) (h8 : t ≤ 8) (hT : S.1 = t) (hs : kSp S = false) (htr : kTr S t = 1024) (hr : SRel b x S) (hne : x.2.1 ≠ -1) : LOut n bd ow ke pr ne wo pz b t x x S := by
  have hall : ¬ (1024 : Int32) ≤ allI (nI n) := by
    rw [allI_nat hn, show (1024 : Int32) = nI 1024 from rfl, nI_leI (by omega) (by have := allN_le hn; omega)]
    have := allN_le hn
    omega
  refine ⟨(t - 1, kFa S t, kGa S t, kLa S t, S.2.2.2.2.1, kLk S, false, kBs S, kBo S, goF n (t - 1) (kTr S) (kFa S) (kGa S), kFa S, kGa S, kLa S, kBz S), GoM.one hT ht h8 hs (by rw [htr]; decide) (by rw [stepK, if_neg (by rw [htr]; exact hall)]), ⟨hr.1, hr.2.1, hs.symm.trans hr.2.2.1, hr.2.2.2.1, hr.2.2.2.2⟩, hne, Or.inr ⟨rfl, rfl, fun j _ => ⟨rfl, rfl, rfl⟩, fun i _ => rfl, ?_, fun j hj => ?_⟩⟩
  · show goF n (t - 1) (kTr S) (kFa S) (kGa S) (t - 1) = _
    unfold goF
    rw [pk_us]
  · show goF n (t - 1) (kTr S) (kFa S) (kGa S) j = _
    unfold goF
    rw [pk_un (by omega)]
end LEVELS
def KSame (S Y : Km) : Prop := kLk Y = kLk S ∧ kSp Y = kSp S ∧ kBs Y = kBs S ∧ kBo Y = kBo S ∧ kFa Y = kFa S ∧ kGa Y = kGa S ∧ kLa Y = kLa S ∧ kBz Y = kBz S
theorem KSame.rel {b : Nat} {x : Ss} {S Y : Km} (h : KSame S Y) (r : SRel b x S) : SRel b x Y := by
  obtain ⟨h1, h2, h3, h4, h5, h6, h7, h8⟩ := h
  obtain ⟨r1, r2, r3, r4, r5⟩ := r
  refine ⟨r1, h1.trans r2, h2.trans r3, h3.trans r4, r5.imp id (fun ⟨a, b, c⟩ => ⟨a, h4.trans b, fun i hi => ?_⟩)⟩
  rw [h8]
  exact c i hi
/-- sets that are too dear are passed over, one by one -/
theorem skip_sets {n : Nat} {bd : Int32} {ow : Row} {ke : Bool} {pr ne wo pz : Row} {t fr s L m : Nat} {p : Nat → Nat} (hn : n ≤ 10) (ht : 1 ≤ t) (h8 : t ≤ 8) (hfr : fr ≤ allN n) (hL : subN L fr) (hm : m < 2 ^ 31)
    (hpz : ∀ j, j ≤ allN n → pz j = sumM pr (nI j) n) (hp : ∀ k, k < n → pr k = nI (p k)) (hp9 : ∀ k, k < n → p k ≤ 9) (hc : ∀ u, s ≤ u → u ≤ L → m < costN p u n) :
    ∀ (d u : Nat) (S : Km), L - u ≤ d → S.1 = t → kSp S = false → kTr S t = nI u → subN u fr → s ≤ u → u ≤ L → freeI (nI n) (kFa S t) (kGa S t) = nI fr → kLa S t = nI m →
      ∃ Y : Km, GoM n bd ow ke pr ne wo pz S Y ∧ Y.1 = t ∧ KSame S Y ∧ kTr Y = upd (kTr S) t (goV (nx 32 fr L))
  | d, u, S, hd, hT, hs, htr, hu, hsu, huL, hf, hla => by
    have hall := allN_le hn
    have hu2 := subN_le hu
    have hc9 := costN_le hp9 u n (Nat.le_refl _)
    have hcu := hc u hsu huL
    have g : GoM n bd ow ke pr ne wo pz S (t, kFa S t, kGa S t, kLa S t, S.2.2.2.2.1, kLk S, false, kBs S, kBo S, goF n t (kTr S) (kFa S) (kGa S), kFa S, kGa S, kLa S, kBz S) := by
      refine GoM.one hT ht h8 hs (by rw [htr]; exact nI_pos (by omega)) ?_
      rw [stepK, if_pos (by rw [htr, allI_nat hn]; exact nI_le (by omega) (by omega)), if_neg (by rw [htr, nI_clamp (by omega), hpz u (by omega), sum_nat hn hp (by omega) n (Nat.le_refl _), hla]; exact nI_ge hcu (by omega))]
    have hgo : goF n t (kTr S) (kFa S) (kGa S) = upd (kTr S) t (goV (nx 32 fr u)) := by
      unfold goF
      rw [goF_nat hf (by omega) htr hu]
    rcases Nat.lt_or_ge u L with z | z
    · have h1 := nx_least 32 fr u L hu hL z (by have := subN_le hL; omega)
      have h2 := nx_next 32 fr u hu h1.1
      cases d with
      | zero => omega
      | succ d =>
        obtain ⟨Y, g2, y1, y2, y3⟩ := skip_sets hn ht h8 hfr hL hm hpz hp hp9 hc d (nx 32 fr u) (t, kFa S t, kGa S t, kLa S t, S.2.2.2.2.1, kLk S, false, kBs S, kBo S, goF n t (kTr S) (kFa S) (kGa S), kFa S, kGa S, kLa S, kBz S) (by omega) rfl rfl
          (by show goF n t (kTr S) (kFa S) (kGa S) t = _; rw [hgo, pk_us]; unfold goV; rw [if_neg h1.1]) h2.2 (by omega) h1.2 hf hla
        refine ⟨Y, g.trans g2, y1, ?_, ?_⟩
        · obtain ⟨q1, q2, q3, q4, q5, q6, q7, q8⟩ := y2
          exact ⟨q1, q2.trans hs.symm, q3, q4, q5, q6, q7, q8⟩
        · rw [y3]
          show upd (goF n t (kTr S) (kFa S) (kGa S)) t _ = _
          rw [hgo, upd_upd]
    · have : u = L := by omega
      subst this
      exact ⟨_, g, rfl, ⟨rfl, hs.symm, rfl, rfl, rfl, rfl, rfl, rfl⟩, hgo⟩
theorem seekL_spent {lk : Int32 → Int32 → Ss → Ss} {pr : Row} {free money : Int32} {x : Ss} (h : x.2.2.2.1 = true) : ∀ (F : Nat) (set : Int32), seekL lk pr free money F set x = x
  | 0, _ => rfl
  | F + 1, set => by rw [seekL, if_pos h]
/-- the burning on without more guards -/
theorem judge_end {n : Nat} {ne ne' : Row} (hn : n ≤ 10) (hne : ∀ k, k < n → ne k = ne' k) (hbl : ∀ k, k < n → below n (ne' k)) (gu : Int32) : ∀ (k' k o : Nat) (f : Int32) (e : Nat × Int32), below n f → n - cntB f n < k → endL n ne' gu k' o f = some e → judgeL ne gu k o f = e ∧ below n e.2 ∧ nearM n ne' e.2 gu = 0
  | 0, _, _, _, _, _, _, h => by cases h
  | k' + 1, k, o, f, e, hf, hk, h => by
    obtain ⟨j, rfl⟩ : ∃ j, k = j + 1 := ⟨k - 1, by omega⟩
    rw [endL] at h
    rw [judgeL, thr_eq hn hne hf]
    by_cases q : nearM n ne' f gu = 0
    · rw [if_pos q] at h ⊢
      cases h
      exact ⟨rfl, hf, q⟩
    · rw [if_neg q] at h ⊢
      have h1 := near_more hn hbl q
      have h2 := cntB_le (f ||| nearM n ne' f gu) n
      exact judge_end hn hne hbl gu k' j (o + 1) _ e (below_or hf (below_thr hbl)) (by omega) h
theorem fill_nat {ow : Row} {o : Nat → Nat} (ho : ∀ t, 1 ≤ t → t ≤ 8 → ow t = nI (o t) ∧ o t ≤ 20) (ke : Bool) {t : Nat} (h1 : 1 ≤ t) (h8 : t ≤ 8) (m : Nat) : ∃ m', m' ≤ 20 + m ∧ fillM ow ke t (nI m) = nI m' := by
  unfold fillM
  have hz : (0 : Int32) = nI 0 := rfl
  cases ke with
  | true =>
    rw [if_pos rfl]
    split
    · exact ⟨m + o t, by have := (ho t h1 h8).2; omega, by rw [(ho t h1 h8).1, nI_add]⟩
    · exact ⟨m + o 8, by have := (ho 8 (by omega) (by omega)).2; omega, by rw [(ho 8 (by omega) (by omega)).1, nI_add]⟩
  | false =>
    rw [if_neg Bool.false_ne_true]
    split
    · exact ⟨o t, by have := (ho t h1 h8).2; omega, by rw [(ho t h1 h8).1, Int32.zero_add]⟩
    · exact ⟨o 8, by have := (ho 8 (by omega) (by omega)).2; omega, by rw [(ho 8 (by omega) (by omega)).1, Int32.zero_add]⟩
theorem saved_nat {wo : Row} {q : Nat → Nat} {n : Nat} (hn : n ≤ 10) (hq : ∀ k, k < n → wo k = nI (q k)) (hq9 : ∀ k, k < n → q k ≤ 9) (f : Int32) : ∃ Q, Q ≤ 90 ∧ savedM n wo f = nI Q := by
  obtain ⟨z, hz, e⟩ := small_of (below_and (y := f ^^^ (-1)) (below_all hn))
  have h2 : 2 ^ n ≤ 2 ^ 10 := Nat.pow_le_pow_right (by decide) hn
  refine ⟨costN q z n, by have := costN_le hq9 z n (Nat.le_refl _); omega, ?_⟩
  unfold savedM
  rw [e]
  exact sum_nat hn hq (by omega) n (Nat.le_refl _)
theorem set_below {n s : Nat} (h : s ≤ allN n) : below n (nI s) := fun i hi => by
  have hp : 0 < 2 ^ n := Nat.pow_pos (by decide)
  by_cases h32 : i < 32
  · by_cases hs : s < 2 ^ 31
    · rw [tb_nI hs]
      exact Nat.testBit_lt_two_pow (Nat.lt_of_lt_of_le (by unfold allN at h; omega) (Nat.pow_le_pow_right (by decide) hi))
    · exfalso
      have : 2 ^ n ≤ 2 ^ 31 := Nat.pow_le_pow_right (by decide) (by omega)
      unfold allN at h
      omega
  · exact tb_big (by omega)
theorem free_nat {n : Nat} (hn : n ≤ 10) (bu gu : Int32) : ∃ fr, fr ≤ allN n ∧ freeI (nI n) bu gu = nI fr := by
  obtain ⟨z, hz, e⟩ := small_of (n := n) (x := freeI (nI n) bu gu) (below_and (below_and (below_all hn)))
  exact ⟨z, by unfold allN; omega, e⟩
/-- what both sides rest on -/
def SHyp (n b : Nat) (pr pr' ne ne' wo wo' ow ow' : Row) (ke : Int32) (ke' : Bool) (bd : Int32) (pz : Row) (p q o : Nat → Nat) : Prop :=
  n ≤ 10 ∧ (∀ k, k < n → pr k = pr' k) ∧ (∀ k, k < n → ne k = ne' k) ∧ (∀ k, k < n → wo k = wo' k) ∧ (∀ k, k < n → below n (ne' k)) ∧ (∀ k, k < n → pr' k = nI (p k)) ∧ (∀ k, k < n → p k ≤ 9) ∧ (∀ k, k < n → wo' k = nI (q k)) ∧ (∀ k, k < n → q k ≤ 9) ∧
  (∀ t, t < 8 → ow t = ow' (t + 1)) ∧ (∀ t, 1 ≤ t → t ≤ 8 → ow' t = nI (o t) ∧ o t ≤ 20) ∧ (ke = 1 ↔ ke' = true) ∧ bd = nI b ∧ 50 ≤ b ∧ b ≤ 1000 ∧ (∀ j, j ≤ allN n → pz j = sumM pr' (nI j) n)

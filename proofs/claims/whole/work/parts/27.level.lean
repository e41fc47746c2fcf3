/-! the search, a level -/
theorem lev_in {n b : Nat} {pr pr' ne ne' wo wo' ow ow' : Row} {ke : Int32} {ke' : Bool} {bd : Int32} {pz : Row} {p q o : Nat → Nat} (H : SHyp n b pr pr' ne ne' wo wo' ow ow' ke ke' bd pz p q o) {t d : Nat} (ht : 1 ≤ t) (h8 : t ≤ 8) {bu gu : Int32}
    (rec : t < 8 → ∀ (fr m : Nat) (x : Ss) (S : Km), LIn n b (t + 1) 0 fr m x S → LOut n bd ow' ke' pr' ne' wo' pz b (t + 1) x (seekF (nI n) wo pr ne ow ke bd d (t + 1) (kFa S (t + 1)) (kGa S (t + 1)) (nI m) x) S) :
    ∀ (F s fr m : Nat) (x : Ss) (S : Km), kFa S t = bu → kGa S t = gu → LIn n b t s fr m x S → 1024 ≤ s + F → LOut n bd ow' ke' pr' ne' wo' pz b t x (seekL (fun set left x => lookF (seekF (nI n) wo pr ne ow ke bd d) (nI n) wo ne ow ke bd t bu gu set left x) pr (nI fr) (nI m) F (nI s) x) S := by
  obtain ⟨hn, hpr, hne, hwo, hbl, hp, hp9, hq, hq9, ho, hoN, hke, hbd, hb50, hb1000, hpz⟩ := H
  have hall := allN_le hn
  intro F
  induction F with
  | zero =>
    intro s fr m x S _ _ hin hF
    obtain ⟨-, -, -, -, -, h6, h7, -⟩ := hin
    have := subN_le h7
    omega
  | succ F ih =>
    intro s fr m x S hbu hgu hin hF
    obtain ⟨hT, hsp, hbel, htr, hfr, hfrn, hsub, hla, hm, hrel, hway, hneg⟩ := hin
    have hs2 := subN_le hsub
    have hbs : below n (nI s) := set_below (by omega)
    have hcost : sumM pr' (nI s) n = nI (costN p s n) := sum_nat hn hp (by omega) n (Nat.le_refl _)
    have hcost10 : sumI pr (nI s) 10 = nI (costN p s n) := by rw [sum_ten hn hpr hbs, hcost]
    have hc90 := costN_le hp9 s n (Nat.le_refl _)
    have hxs : ¬ x.2.2.2.1 = true := by
      rw [← hrel.2.2.1, hsp]
      exact Bool.false_ne_true
    -- going on behind a set
    have cont : ∀ (L : Nat) (x1 : Ss) (Y : Km), s ≤ L → subN L fr → GoM n bd ow' ke' pr' ne' wo' pz S Y → Y.1 = t → kSp Y = false → kTr Y t = goV (nx 32 fr L) → (∀ j, j ≤ t → kFa Y j = kFa S j ∧ kGa Y j = kGa S j ∧ kLa Y j = kLa S j) → (∀ j, j < t → kTr Y j = kTr S j) → (∀ i, i + 1 < t → x1.2.2.2.2.1 i = x.2.2.2.2.1 i) → SRel b x1 Y → x1.2.1 ≠ -1 →
        LOut n bd ow' ke' pr' ne' wo' pz b t x (if nI (nx 32 fr L) = 0 then x1 else seekL (fun set left x => lookF (seekF (nI n) wo pr ne ow ke bd d) (nI n) wo ne ow ke bd t bu gu set left x) pr (nI fr) (nI m) F (nI (nx 32 fr L)) x1) S := by
      intro L x1 Y hsL hL g y1 y2 y3 yk ytr yw yr yn
      by_cases z : nx 32 fr L = 0
      · rw [if_pos (by rw [z]; rfl)]
        refine LOut.back ht g (fun j hj => yk j (by omega)) ytr yw (lev_end hn ht h8 y1 y2 ?_ yr yn)
        rw [y3, goV, if_pos z]
      · have h1 := nx_next 32 fr L hL z
        have h2 := subN_le h1.2
        rw [if_neg (nI_ne0 (by omega) (by omega))]
        obtain ⟨k1, k2, k3⟩ := yk t (Nat.le_refl _)
        refine LOut.back ht g (fun j hj => yk j (by omega)) ytr yw (ih (nx 32 fr L) fr m x1 Y (k1.trans hbu) (k2.trans hgu) ⟨y1, y2, by rw [k1]; exact hbel, ?_, by rw [k1, k2]; exact hfr, hfrn, h1.2, k3.trans hla, hm, yr, fun i hi => ?_, fun w => absurd w yn⟩ (by omega))
        · rw [y3, goV, if_neg z]
        · rw [ytr (i + 1) hi, yw i hi]
          exact hway i hi
    have hfr1024 : fr < 1024 := by omega
    have hnext : nextW (nI fr) (nI s) = nI (nx 32 fr s) := nextW_nat hfr1024 hsub
    have hgo : goF n t (kTr S) (kFa S) (kGa S) = upd (kTr S) t (goV (nx 32 fr s)) := by
      unfold goF
      rw [goF_nat hfr hfr1024 htr hsub]
    have hrel0 := hrel
    obtain ⟨⟨l, hl, hxl⟩, hlk, hspE, hbsE, hrest⟩ := hrel
    have hfree : freeI (nI n) bu gu = nI fr := by rw [← hbu, ← hgu]; exact hfr
    rw [seekL, if_neg hxs, hcost10]
    by_cases hc : m < costN p s n
    · -- too dear
      have hs0 : s ≠ 0 := fun z => by
        rw [z, costN_0] at hc
        omega
      rw [if_pos (pk_sneg (by omega) hc)]
      obtain ⟨e0, hpp, e1, e2, e3⟩ := last_nat s (by omega) hs0
      obtain ⟨c1, c2, c3⟩ := last_cut hsub e2
      have c4 := subN_le c3
      have hp2 : 2 ^ e0 ≤ 2 ^ 10 := Nat.pow_le_pow_right (by decide) (by omega)
      have hnw : nextW (nI fr) (lastAb (nI s)) = nI (nx 32 fr ((s ||| (2 ^ e0 - 1)) &&& fr)) := by
        rw [e1, nextW_cut, nI_and (by rw [e2]; omega) (by omega), nextW_nat hfr1024 c3]
      rw [hnw]
      obtain ⟨Y, g, y1, y2, y3⟩ := skip_sets (bd := bd) (ow := ow') (ke := ke') (ne := ne') (wo := wo') (s := s) hn ht h8 hfrn c3 (show m < 2 ^ 31 by omega) hpz hp hp9 (fun u h1 h2 => Nat.lt_of_lt_of_le hc (costN_mono p (last_sub e3 h1 (by omega)) n)) _ s S (Nat.le_refl _) hT hsp htr hsub (Nat.le_refl _) c1 hfr hla
      have y2' := y2
      obtain ⟨q1, q2, q3, q4, q5, q6, q7, q8⟩ := y2
      refine cont _ x Y c1 c3 g y1 (q2.trans hsp) (by rw [y3, pk_us]) (fun j _ => ⟨by rw [q5], by rw [q6], by rw [q7]⟩) (fun j hj => by rw [y3, pk_un (by omega)]) (fun i _ => rfl) (y2'.rel hrel0) (fun w => hs0 (hneg w).1)
    · -- a look
      rw [if_neg (by rw [pk_sub (by omega)]; exact nI_pos (by omega)), pk_sub (by omega), hnext]
      show LOut n bd ow' ke' pr' ne' wo' pz b t x (if nI (nx 32 fr s) = 0 then lookF (seekF (nI n) wo pr ne ow ke bd d) (nI n) wo ne ow ke bd t bu gu (nI s) (nI (m - costN p s n)) x else seekL _ pr (nI fr) (nI m) F (nI (nx 32 fr s)) (lookF (seekF (nI n) wo pr ne ow ke bd d) (nI n) wo ne ow ke bd t bu gu (nI s) (nI (m - costN p s n)) x)) S
      have hle : kTr S t ≤ allI (nI n) := by
        rw [htr, allI_nat hn]
        exact nI_le (by omega) (by omega)
      have hpay : pz (kTr S t).toNatClampNeg ≤ kLa S t := by
        rw [htr, nI_clamp (by omega), hpz s (by omega), hcost, hla]
        exact nI_le (by omega) (by omega)
      have hpos : ¬ kTr S t < 0 := by rw [htr]; exact nI_pos (by omega)
      unfold lookF
      by_cases hl2 : l < b
      · have hlt : x.1 < bd := by
          rw [hxl, hbd]
          exact nI_lt hl2 (by omega)
        have hlkb : ¬ kLk S = bd := by
          rw [hlk, hxl, hbd, nI_eq (by omega) (by omega)]
          omega
        have hl1 : x.1 + 1 = nI (l + 1) := by rw [hxl, nI_1]
        rw [if_pos hlt]
        have hbel' : below n bu := by rw [← hbu]; exact hbel
        rw [thr_eq hn hne hbel']
        by_cases hdn : ¬ nearM n ne' bu (gu ||| nI s) = 0 ∧ t < 8
        · rw [if_pos hdn]
          obtain ⟨m', hm', hfm⟩ := fill_nat hoN ke' (show 1 ≤ t + 1 by omega) (show t + 1 ≤ 8 by omega) (m - costN p s n)
          obtain ⟨fr', hfr', efr⟩ := free_nat hn (bu ||| nearM n ne' bu (gu ||| nI s)) (gu ||| nI s)
          rw [fill_eq ho hke (show 1 ≤ t + 1 by omega), hfm]
          obtain ⟨Y1, hY1⟩ : ∃ Y1 : Km, Y1 = (t + 1, bu ||| nearM n ne' bu (gu ||| nI s), gu ||| nI s, nI m', S.2.2.2.2.1 + nI (costN p s n), kLk S + 1, false, kBs S, kBo S, upd (kTr S) (t + 1) 0, upd (kFa S) (t + 1) (bu ||| nearM n ne' bu (gu ||| nI s)), upd (kGa S) (t + 1) (gu ||| nI s), upd (kLa S) (t + 1) (nI m'), kBz S) := ⟨_, rfl⟩
          have g : GoM n bd ow' ke' pr' ne' wo' pz S Y1 := by
            refine GoM.one hT ht h8 hsp hpos ?_
            rw [stepK, if_pos hle, if_pos hpay, if_neg hlkb, if_pos (by rw [hbu, hgu, htr]; exact hdn), hbu, hgu, htr, hla, hcost, pk_sub (by omega), hfm, hY1]
          have yT : Y1.1 = t + 1 := by rw [hY1]
          have ySp : kSp Y1 = false := by rw [hY1]
          have yLk : kLk Y1 = kLk S + 1 := by rw [hY1]
          have yBs : kBs Y1 = kBs S := by rw [hY1]
          have yBo : kBo Y1 = kBo S := by rw [hY1]
          have yBz : kBz Y1 = kBz S := by rw [hY1]
          have yTr : kTr Y1 = upd (kTr S) (t + 1) 0 := by rw [hY1]
          have yFa : kFa Y1 = upd (kFa S) (t + 1) (bu ||| nearM n ne' bu (gu ||| nI s)) := by rw [hY1]
          have yGa : kGa Y1 = upd (kGa S) (t + 1) (gu ||| nI s) := by rw [hY1]
          have yLa : kLa Y1 = upd (kLa S) (t + 1) (nI m') := by rw [hY1]
          clear hY1
          obtain ⟨x1, hx1⟩ : ∃ x1 : Ss, x1 = (x.1 + 1, x.2.1, x.2.2.1, x.2.2.2.1, upd x.2.2.2.2.1 (t - 1) (nI s), x.2.2.2.2.2) := ⟨_, rfl⟩
          have x1a : x1.1 = x.1 + 1 := by rw [hx1]
          have x1b : x1.2.1 = x.2.1 := by rw [hx1]
          have x1c : x1.2.2.1 = x.2.2.1 := by rw [hx1]
          have x1d : x1.2.2.2.1 = x.2.2.2.1 := by rw [hx1]
          have x1e : x1.2.2.2.2.1 = upd x.2.2.2.2.1 (t - 1) (nI s) := by rw [hx1]
          have x1f : x1.2.2.2.2.2 = x.2.2.2.2.2 := by rw [hx1]
          rw [← hx1]
          clear hx1
          have hin' : LIn n b (t + 1) 0 fr' m' x1 Y1 := by
            refine ⟨yT, ySp, ?_, ?_, ?_, hfr', ?_, ?_, by omega, ⟨⟨l + 1, by omega, by rw [x1a]; exact hl1⟩, ?_, ?_, ?_, ?_⟩, ?_, ?_⟩
            · rw [yFa, pk_us]
              exact below_or hbel' (below_thr hbl)
            · rw [yTr, pk_us]
              rfl
            · rw [yFa, yGa, pk_us, pk_us]
              exact efr
            · intro i hi
              rw [Nat.zero_testBit] at hi
              cases hi
            · rw [yLa, pk_us]
            · rw [yLk, x1a, hlk]
            · rw [ySp, x1d, ← hspE, hsp]
            · rw [yBs, x1b]
              exact hbsE
            · rw [x1b, x1c, x1f, yBo, yBz]
              exact hrest
            · intro i hi
              rw [yTr, x1e, pk_un (f := kTr S) (by omega)]
              by_cases z : i = t - 1
              · rw [z, pk_us, show t - 1 + 1 = t by omega]
                exact ⟨htr, nI_pos' (by omega)⟩
              · rw [pk_un z]
                exact hway i (by omega)
            · intro w
              rw [x1b] at w
              refine ⟨rfl, ?_⟩
              rw [x1a, (hneg w).2, nI_1, show t - 1 + 1 = t + 1 - 1 by omega]
          have r := rec hdn.2 fr' m' x1 Y1 hin'
          rw [show kFa Y1 (t + 1) = bu ||| nearM n ne' bu (gu ||| nI s) by rw [yFa, pk_us], show kGa Y1 (t + 1) = gu ||| nI s by rw [yGa, pk_us]] at r
          generalize seekF (nI n) wo pr ne ow ke bd d (t + 1) (bu ||| nearM n ne' bu (gu ||| nI s)) (gu ||| nI s) (nI m') x1 = x2 at r ⊢
          obtain ⟨Y2, g2, r2, n2, h2⟩ := r
          rcases h2 with hsp2 | ⟨hsp2, hT2, hk2, hw2, htr2, htr3⟩
          · have hx2 : x2.2.2.2.1 = true := by rw [← r2.2.2.1]; exact hsp2
            have e : (if nI (nx 32 fr s) = 0 then x2 else seekL (fun set left x => lookF (seekF (nI n) wo pr ne ow ke bd d) (nI n) wo ne ow ke bd t bu gu set left x) pr (nI fr) (nI m) F (nI (nx 32 fr s)) x2) = x2 := by
              split
              · rfl
              · exact seekL_spent hx2 _ _
            show LOut n bd ow' ke' pr' ne' wo' pz b t x (if nI (nx 32 fr s) = 0 then x2 else seekL (fun set left x => lookF (seekF (nI n) wo pr ne ow ke bd d) (nI n) wo ne ow ke bd t bu gu set left x) pr (nI fr) (nI m) F (nI (nx 32 fr s)) x2) S
            rw [e]
            exact ⟨Y2, g.trans g2, r2, n2, Or.inl hsp2⟩
          · refine cont s x2 Y2 (Nat.le_refl _) hsub (g.trans g2) (by omega) hsp2 ?_ (fun j hj => ?_) (fun j hj => ?_) (fun i hi => ?_) r2 n2
            · rw [show t + 1 - 1 = t by omega, yTr, yFa, yGa] at htr2
              rw [htr2]
              have e : goN n t (upd (kTr S) (t + 1) 0) (upd (kFa S) (t + 1) (bu ||| nearM n ne' bu (gu ||| nI s))) (upd (kGa S) (t + 1) (gu ||| nI s)) = goN n t (kTr S) (kFa S) (kGa S) := by
                unfold goN
                rw [pk_un (by omega), pk_un (by omega), pk_un (by omega)]
              rw [e, goF_nat hfr hfr1024 htr hsub]
            · obtain ⟨a1, a2, a3⟩ := hk2 j (by omega)
              rw [a1, a2, a3, yFa, yGa, yLa, pk_un (by omega), pk_un (by omega), pk_un (by omega)]
              exact ⟨rfl, rfl, rfl⟩
            · rw [htr3 j (by omega), yTr, pk_un (by omega)]
            · rw [hw2 i (by omega), x1e, pk_un (by omega)]
        · rw [if_neg hdn]
          obtain ⟨e, he⟩ := endOK hn hbl (gu ||| nI s) t bu
          obtain ⟨j1, j2, j3⟩ := judge_end hn hne hbl (gu ||| nI s) 33 (20 - t) t bu e hbel' (by omega) he
          obtain ⟨Q, hQ, eQ⟩ := saved_nat hn hq hq9 e.2
          unfold judgeF
          rw [j1, saved_eq hn hwo, eQ]
          have hend : endL n ne' (kGa S t ||| kTr S t) 33 t (kFa S t) = some e := by rw [hgu, htr, hbu]; exact he
          have hstep : stepK n bd ow' ke' pr' ne' wo' pz t S.2.2.2.2.1 (kLk S) false (kBs S) (kBo S) (kTr S) (kFa S) (kGa S) (kLa S) (kBz S) = stepE n pr' ne' wo' t S.2.2.2.2.1 (kLk S) false (kBs S) (kBo S) (kTr S) (kFa S) (kGa S) (kLa S) (kBz S) := by
            rw [stepK, if_pos hle, if_pos hpay, if_neg hlkb, if_neg (by rw [hbu, hgu, htr]; exact hdn)]
          have hE : stepE n pr' ne' wo' t S.2.2.2.2.1 (kLk S) false (kBs S) (kBo S) (kTr S) (kFa S) (kGa S) (kLa S) (kBz S) = if kBs S < nI Q then
              (t, e.2, kGa S t ||| kTr S t, kLa S t - sumM pr' (kTr S t) n, S.2.2.2.2.1 + sumM pr' (kTr S t) n, kLk S + 1, false, nI Q, nI e.1, goF n t (kTr S) (kFa S) (kGa S), kFa S, kGa S, kLa S, cmpF (kTr S) (kBz S) t 8)
              else (t, e.2, kGa S t ||| kTr S t, kLa S t - sumM pr' (kTr S t) n, S.2.2.2.2.1 + sumM pr' (kTr S t) n, kLk S + 1, false, kBs S, kBo S, goF n t (kTr S) (kFa S) (kGa S), kFa S, kGa S, kLa S, kBz S) := by
            unfold stepE
            rw [hend]
            show (if kBs S < savedM n wo' (e.2 ||| nearM n ne' e.2 (kGa S t ||| kTr S t)) then (t, e.2 ||| nearM n ne' e.2 (kGa S t ||| kTr S t), kGa S t ||| kTr S t, kLa S t - sumM pr' (kTr S t) n, S.2.2.2.2.1 + sumM pr' (kTr S t) n, kLk S + 1, false, savedM n wo' (e.2 ||| nearM n ne' e.2 (kGa S t ||| kTr S t)), nI e.1, goF n t (kTr S) (kFa S) (kGa S), kFa S, kGa S, kLa S, cmpF (kTr S) (kBz S) t 8) else (t, e.2 ||| nearM n ne' e.2 (kGa S t ||| kTr S t), kGa S t ||| kTr S t, kLa S t - sumM pr' (kTr S t) n, S.2.2.2.2.1 + sumM pr' (kTr S t) n, kLk S + 1, false, kBs S, kBo S, goF n t (kTr S) (kFa S) (kGa S), kFa S, kGa S, kLa S, kBz S)) = _
            have z : nearM n ne' e.2 (kGa S t ||| kTr S t) = 0 := by rw [hgu, htr]; exact j3
            rw [z, Int32.or_zero, eQ]
          by_cases hbet : x.2.1 < nI Q
          · rw [if_pos hbet]
            rw [if_pos (by rw [hbsE]; exact hbet)] at hE
            refine cont s (x.1 + 1, nI Q, nI e.1, x.2.2.2.1, upd x.2.2.2.2.1 (t - 1) (nI s), keptA (upd x.2.2.2.2.1 (t - 1) (nI s)) x.2.2.2.2.2 t 8) _ (Nat.le_refl _) hsub (GoM.one hT ht h8 hsp hpos (hstep.trans hE)) rfl rfl ?_ (fun j _ => ⟨rfl, rfl, rfl⟩) (fun j hj => ?_) (fun i hi => ?_) ⟨⟨l + 1, by omega, hl1⟩, ?_, ?_, rfl, Or.inr ⟨⟨Q, hQ, rfl⟩, rfl, fun i hi => ?_⟩⟩ ?_
            · show goF n t (kTr S) (kFa S) (kGa S) t = _
              rw [hgo, pk_us]
            · show goF n t (kTr S) (kFa S) (kGa S) j = _
              rw [hgo, pk_un (by omega)]
            · show upd x.2.2.2.2.1 (t - 1) (nI s) i = _
              rw [pk_un (by omega)]
            · show kLk S + 1 = x.1 + 1
              rw [hlk]
            · show false = x.2.2.2.1
              rw [← hspE, hsp]
            · show cmpF (kTr S) (kBz S) t 8 (i + 1) = keptA (upd x.2.2.2.2.1 (t - 1) (nI s)) x.2.2.2.2.2 t 8 i ∧ 0 ≤ keptA (upd x.2.2.2.2.1 (t - 1) (nI s)) x.2.2.2.2.2 t 8 i
              unfold cmpF keptA
              rw [if_pos (show 1 ≤ i + 1 ∧ i + 1 ≤ 8 by omega), if_pos hi]
              by_cases w : i < t
              · rw [if_pos (show i + 1 ≤ t by omega), if_pos w]
                by_cases z : i = t - 1
                · rw [z, pk_us, show t - 1 + 1 = t by omega]
                  exact ⟨htr, nI_pos' (by omega)⟩
                · rw [pk_un z]
                  exact hway i (by omega)
              · rw [if_neg (show ¬ i + 1 ≤ t by omega), if_neg w]
                exact ⟨rfl, by decide⟩
            · intro w
              have : ¬ nI Q < 0 := nI_pos (by omega)
              rw [show nI Q = -1 from w] at this
              exact this (by decide)
          · rw [if_neg hbet]
            rw [if_neg (by rw [hbsE]; exact hbet)] at hE
            have hx1 : x.2.1 ≠ -1 := fun w => hbet (by
              rw [w]
              exact Int32.lt_of_lt_of_le (by decide) (nI_pos' (n := Q) (by omega)))
            refine cont s (x.1 + 1, x.2.1, x.2.2.1, x.2.2.2.1, upd x.2.2.2.2.1 (t - 1) (nI s), x.2.2.2.2.2) _ (Nat.le_refl _) hsub (GoM.one hT ht h8 hsp hpos (hstep.trans hE)) rfl rfl ?_ (fun j _ => ⟨rfl, rfl, rfl⟩) (fun j hj => ?_) (fun i hi => ?_) ⟨⟨l + 1, by omega, hl1⟩, ?_, ?_, hbsE, hrest⟩ hx1
            · show goF n t (kTr S) (kFa S) (kGa S) t = _
              rw [hgo, pk_us]
            · show goF n t (kTr S) (kFa S) (kGa S) j = _
              rw [hgo, pk_un (by omega)]
            · show upd x.2.2.2.2.1 (t - 1) (nI s) i = _
              rw [pk_un (by omega)]
            · show kLk S + 1 = x.1 + 1
              rw [hlk]
            · show false = x.2.2.2.1
              rw [← hspE, hsp]
      · -- spent
        have hlb : l = b := by omega
        rw [if_neg (show ¬ x.1 < bd by rw [hxl, hbd]; exact nI_nlt (by omega) (by omega))]
        have e : (if nI (nx 32 fr s) = 0 then (x.1, x.2.1, x.2.2.1, true, x.2.2.2.2.1, x.2.2.2.2.2) else seekL (fun set left x => lookF (seekF (nI n) wo pr ne ow ke bd d) (nI n) wo ne ow ke bd t bu gu set left x) pr (nI fr) (nI m) F (nI (nx 32 fr s)) (x.1, x.2.1, x.2.2.1, true, x.2.2.2.2.1, x.2.2.2.2.2)) = (x.1, x.2.1, x.2.2.1, true, x.2.2.2.2.1, x.2.2.2.2.2) := by
          split
          · rfl
          · exact seekL_spent rfl _ _
        show LOut n bd ow' ke' pr' ne' wo' pz b t x (if nI (nx 32 fr s) = 0 then (x.1, x.2.1, x.2.2.1, true, x.2.2.2.2.1, x.2.2.2.2.2) else seekL (fun set left x => lookF (seekF (nI n) wo pr ne ow ke bd d) (nI n) wo ne ow ke bd t bu gu set left x) pr (nI fr) (nI m) F (nI (nx 32 fr s)) (x.1, x.2.1, x.2.2.1, true, x.2.2.2.2.1, x.2.2.2.2.2)) S
        rw [e]
        refine ⟨(t, kFa S t, kGa S t, kLa S t, S.2.2.2.2.1, kLk S, true, kBs S, kBo S, kTr S, kFa S, kGa S, kLa S, kBz S), GoM.one hT ht h8 hsp hpos ?_, ⟨⟨l, hl, hxl⟩, hlk, rfl, hbsE, hrest⟩, fun w => ?_, Or.inl rfl⟩
        · rw [stepK, if_pos hle, if_pos hpay, if_pos (by rw [hlk, hxl, hbd, hlb])]
        · have := (hneg w).2
          rw [hxl, nI_eq (by omega) (by omega)] at this
          omega
/-- every level -/
theorem lev_all {n b : Nat} {pr pr' ne ne' wo wo' ow ow' : Row} {ke : Int32} {ke' : Bool} {bd : Int32} {pz : Row} {p q o : Nat → Nat} (H : SHyp n b pr pr' ne ne' wo wo' ow ow' ke ke' bd pz p q o) :
    ∀ (d t : Nat), t + d = 8 → 1 ≤ t → ∀ (fr m : Nat) (x : Ss) (S : Km), LIn n b t 0 fr m x S → LOut n bd ow' ke' pr' ne' wo' pz b t x (seekF (nI n) wo pr ne ow ke bd (d + 1) t (kFa S t) (kGa S t) (nI m) x) S
  | d, t, hd, ht, fr, m, x, S, hin => by
    have e : seekF (nI n) wo pr ne ow ke bd (d + 1) t (kFa S t) (kGa S t) (nI m) x = seekL (fun set left x => lookF (seekF (nI n) wo pr ne ow ke bd d) (nI n) wo ne ow ke bd t (kFa S t) (kGa S t) set left x) pr (nI fr) (nI m) 1024 (nI 0) x := by
      rw [seekF, hin.2.2.2.2.1]
      rfl
    rw [e]
    refine lev_in H ht (by omega) (d := d) (fun h8 fr' m' x' S' hin' => ?_) 1024 0 fr m x S rfl rfl hin (by omega)
    cases d with
    | zero => omega
    | succ d => exact lev_all H d (t + 1) (by omega) (by omega) fr' m' x' S' hin'
/-- the whole search -/
theorem seek_top {n b : Nat} {pr pr' ne ne' wo wo' ow ow' : Row} {ke : Int32} {ke' : Bool} {bd : Int32} {pz : Row} {p q o : Nat → Nat} (H : SHyp n b pr pr' ne ne' wo wo' ow ow' ke ke' bd pz p q o) {d : Nat} (hd : 1 + d = 8) {fire : Int32} (hf : below n fire) (ov : Int32) (way kept tr fa ga la bz : Row) :
    ∃ Y : Km, SeekTo n bd ow' ke' pr' ne' wo' pz (x0M ow' ke' fire tr fa ga la bz) Y ∧ SRel b (seekF (nI n) wo pr ne ow ke bd (d + 1) 1 fire 0 (moneyI ow ke 1 0) (0, -1, ov, false, way, kept)) Y ∧ (seekF (nI n) wo pr ne ow ke bd (d + 1) 1 fire 0 (moneyI ow ke 1 0) (0, -1, ov, false, way, kept)).2.1 ≠ -1 := by
  have H0 := H
  obtain ⟨hn, hpr, hne, hwo, hbl, hp, hp9, hq, hq9, ho, hoN, hke, hbd, hb50, hb1000, hpz⟩ := H
  obtain ⟨fr, hfr, efr⟩ := free_nat hn fire 0
  obtain ⟨m, hm, hfm⟩ := fill_nat hoN ke' (Nat.le_refl 1) (show 1 ≤ 8 by omega) 0
  have hin : LIn n b 1 0 fr m (0, -1, ov, false, way, kept) (x0M ow' ke' fire tr fa ga la bz) := by
    refine ⟨rfl, rfl, ?_, ?_, ?_, hfr, fun i hi => (by rw [Nat.zero_testBit] at hi; cases hi), ?_, by omega, ⟨⟨0, by omega, rfl⟩, rfl, rfl, rfl, Or.inl rfl⟩, fun i hi => by omega, fun _ => ⟨rfl, rfl⟩⟩
    · show below n (upd fa 1 fire 1)
      rw [pk_us]
      exact hf
    · show upd tr 1 0 1 = _
      rw [pk_us]
      rfl
    · show freeI (nI n) (upd fa 1 fire 1) (upd ga 1 0 1) = _
      rw [pk_us, pk_us]
      exact efr
    · show upd la 1 (fillM ow' ke' 1 0) 1 = _
      rw [pk_us]
      exact hfm
  have h := lev_all H0 d 1 hd (Nat.le_refl 1) fr m _ _ hin
  rw [show kFa (x0M ow' ke' fire tr fa ga la bz) 1 = fire by show upd fa 1 fire 1 = fire; exact pk_us, show kGa (x0M ow' ke' fire tr fa ga la bz) 1 = 0 by show upd ga 1 0 1 = 0; exact pk_us, ← hfm, show fillM ow' ke' 1 (nI 0) = moneyI ow ke 1 0 from (fill_eq ho hke (Nat.le_refl 1) 0).symm] at h
  obtain ⟨Y, g, r, hne1, h2⟩ := h
  refine ⟨Y, g.seekTo (h2.elim (fun z => Or.inr z) (fun z => Or.inl z.2.1)), r, hne1⟩

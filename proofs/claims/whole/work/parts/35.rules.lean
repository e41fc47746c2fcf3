/-! share, worst, mean: the whole answers -/
section RULED
variable {n b : Nat} {pr pr' ne ne' wo wo' ow ow' : Row} {ke : Int32} {ke' : Bool} {bd : Int32} {p q o : Nat → Nat} {d : Nat}
theorem share_full (N : SNet n b pr pr' ne ne' wo wo' bd p q) (P : SPur ow ow' ke ke' o) (hd : 1 + d = 8) {ru fire : Int32} {yC : Cs} {yM : Nat × Ps} {y0 : Ss} (hyC : yC = liveA wo pr ne ow ke ru fire 20) (hyM : liveL n wo' ne' pr' ow' ke' ru 33 0 (fire, 0, 0, 0) = some yM)
    (hy0 : y0 = seekF (nI n) wo pr ne ow ke bd (d + 1) 1 fire 0 (moneyI ow ke 1 0) (0, -1, 0, false, fun _ => 0, fun _ => 0)) (what : Int32) :
    ∃ g : Int32, ((0 ≤ ru ∧ ru ≤ 2) → (1 ≤ fire ∧ fire ≤ allI (nI n)) → gcdL 30 (upS n wo' yM y0.2.1) (loS y0.2.1) = some g ∧ g ≠ 0) ∧ shareO (nI n) (savedI (nI n) wo yC.1) y0.2.1 ru fire what = shareR n (upS n wo' yM y0.2.1) (loS y0.2.1) g ru fire what := by
  obtain ⟨hn1, hn, hpr, hne, hwo, hbl, -⟩ := id N
  by_cases hr : 0 ≤ ru ∧ ru ≤ 2
  · by_cases hf : 1 ≤ fire ∧ fire ≤ allI (nI n)
    · have hb := fire_below hn hf
      obtain ⟨Q, hQ, eQ⟩ := (seek_all N P hd hb hy0).2.1
      have hend := live_end hn hr hwo hpr hne hbl P.1 P.2.2 hb hyC hyM
      obtain ⟨W, hW, e1, e2⟩ := part_nat2 N yC.1
      have e3 : savedM n wo' yM.2.1 = nI W := by
        rw [hend]
        exact e2
      obtain ⟨h1, h2⟩ := share_ans (n := n) hW hQ e3 ru fire what
      rw [eQ, e1]
      exact ⟨_, fun _ _ => h1, h2⟩
    · refine ⟨0, fun _ z => absurd z hf, ?_⟩
      unfold shareO shareR
      rw [if_pos hr, if_pos hr, if_neg hf, if_neg hf]
  · refine ⟨0, fun z => absurd z hr, ?_⟩
    unfold shareO shareR
    rw [if_neg hr, if_neg hr]
theorem worst_full (N : SNet n b pr pr' ne ne' wo wo' bd p q) (P : SPur ow ow' ke ke' o) (hd : 1 + d = 8) (ru : Int32) :
    worstO n (fun k => savedI (nI n) wo (liveA wo pr ne ow ke ru (1 <<< (nI k &&& 31)) 20).1) (fun k => savL (nI n) wo pr ne ow ke bd d ((1 : Int32) <<< (nI k &&& 31))) ru =
      worstR (fun k => if savL (nI n) wo pr ne ow ke bd d ((1 : Int32) <<< (nI k &&& 31)) = 0 then 1 else savedM n wo' (liveG n wo' ne' pr' ow' ke' ru ((1 : Int32) <<< (nI k &&& 31))).2.1) (fun k => loS (savL (nI n) wo pr ne ow ke bd d ((1 : Int32) <<< (nI k &&& 31)))) n ru := by
  obtain ⟨hn1, hn, hpr, hne, hwo, hbl, -⟩ := id N
  unfold worstO worstR
  by_cases hr : 0 ≤ ru ∧ ru ≤ 2
  · rw [if_pos hr, if_pos hr]
    refine congrArg (fun z => z.1) (worst_run hn (fun k hk => ?_) n (Nat.le_refl _) hn1).1
    have hb := below_shl hk hn
    obtain ⟨Q, hQ, eQ⟩ := (seek_all N P hd hb (y := seekF (nI n) wo pr ne ow ke bd (d + 1) 1 ((1 : Int32) <<< (nI k &&& 31)) 0 (moneyI ow ke 1 0) (0, -1, 0, false, fun _ => 0, fun _ => 0)) rfl).2.1
    have eQ : savL (nI n) wo pr ne ow ke bd d ((1 : Int32) <<< (nI k &&& 31)) = nI Q := eQ
    obtain ⟨z, hz⟩ : ∃ z : Cs, z = liveA wo pr ne ow ke ru ((1 : Int32) <<< (nI k &&& 31)) 20 := ⟨_, rfl⟩
    have hend := live_end (ke := ke) (ke' := ke') hn hr hwo hpr hne hbl P.1 P.2.2 hb hz (liveG_some (liveOK ru hn hbl) rfl)
    obtain ⟨W, hW, e1, e2⟩ := part_nat2 N z.1
    have e2 : savedM n wo' (psC z).1 = nI W := e2
    refine ⟨W, Q, hW, hQ, ?_, eQ, ?_, ?_⟩
    · show savedI (nI n) wo (liveA wo pr ne ow ke ru ((1 : Int32) <<< (nI k &&& 31)) 20).1 = nI W
      rw [← hz]
      exact e1
    · show (if savL (nI n) wo pr ne ow ke bd d ((1 : Int32) <<< (nI k &&& 31)) = 0 then 1 else savedM n wo' (liveG n wo' ne' pr' ow' ke' ru ((1 : Int32) <<< (nI k &&& 31))).2.1) = _
      rw [hend, eQ]
      by_cases z : Q = 0
      · rw [if_pos z, if_pos (by rw [z]; rfl)]
      · rw [if_neg z, if_neg (nI_ne0 (by omega) (by omega))]
        exact e2
    · show loS (savL (nI n) wo pr ne ow ke bd d ((1 : Int32) <<< (nI k &&& 31))) = _
      unfold loS
      rw [eQ]
      by_cases z : Q = 0
      · rw [if_pos z, if_pos (by rw [z]; rfl)]
      · rw [if_neg z, if_neg (nI_ne0 (by omega) (by omega))]
  · rw [if_neg hr, if_neg hr]
theorem mean_full (N : SNet n b pr pr' ne ne' wo wo' bd p q) (P : SPur ow ow' ke ke' o) (ru st what : Int32) :
    ∃ g : Int32, ((1 ≤ st ∧ st ≤ allI (nI n)) → gcdL 30 (meanA (fun k => savedM n wo' (liveG n wo' ne' pr' ow' ke' ru ((1 : Int32) <<< (nI k &&& 31))).2.1) st n) (bitsA st 10) = some g ∧ g ≠ 0) ∧
      meanO (nI n) (fun k => savedI (nI n) wo (liveA wo pr ne ow ke ru (1 <<< (nI k &&& 31)) 20).1) ru st what = meanR n (meanA (fun k => savedM n wo' (liveG n wo' ne' pr' ow' ke' ru ((1 : Int32) <<< (nI k &&& 31))).2.1) st n) (bitsA st 10) g ru st what := by
  obtain ⟨hn1, hn, hpr, hne, hwo, hbl, -, -, hq, hq9, -⟩ := id N
  by_cases hs : 1 ≤ st ∧ st ≤ allI (nI n)
  · have hb := fire_below hn hs
    obtain ⟨c, hc0, hc, ec1, ec2⟩ := bits_pos hn hs
    obtain ⟨G, hG⟩ : ∃ G : Nat → Int32, G = fun k => savedM n wo' (liveG n wo' ne' pr' ow' ke' ru ((1 : Int32) <<< (nI k &&& 31))).2.1 := ⟨_, rfl⟩
    rw [← hG]
    have hg : ∀ k, G k = nI (Classical.choose (saved_nat hn hq hq9 (liveG n wo' ne' pr' ow' ke' ru ((1 : Int32) <<< (nI k &&& 31))).2.1)) ∧ Classical.choose (saved_nat hn hq hq9 (liveG n wo' ne' pr' ow' ke' ru ((1 : Int32) <<< (nI k &&& 31))).2.1) ≤ 90 := fun k => by
      have h := Classical.choose_spec (saved_nat hn hq hq9 (liveG n wo' ne' pr' ow' ke' ru ((1 : Int32) <<< (nI k &&& 31))).2.1)
      rw [hG]
      exact ⟨h.2, h.1⟩
    obtain ⟨U, hU, eU1, eU2⟩ := mean_sum (pa := G) (G := G) hn (fun k _ => ⟨(hg k).1, (hg k).1, (hg k).2⟩) hb
    obtain ⟨f1, f2, f3⟩ := frac_part (u := U) (l := c) (by omega) (by omega) hc0 what
    rw [eU2, ec2]
    refine ⟨_, fun _ => ⟨f2, f3⟩, ?_⟩
    unfold meanO meanR
    by_cases hr : 0 ≤ ru ∧ ru ≤ 2
    · rw [if_pos hr, if_pos hr, if_pos hs, if_pos hs]
      by_cases hw : 0 ≤ what ∧ what ≤ 1
      · rw [if_pos hw, if_pos hw, ← f1, ec1]
        have e : ∀ k, k < n → savedI (nI n) wo (liveA wo pr ne ow ke ru (1 <<< (nI k &&& 31)) 20).1 = G k := fun k hk => by
          obtain ⟨z, hz⟩ : ∃ z : Cs, z = liveA wo pr ne ow ke ru ((1 : Int32) <<< (nI k &&& 31)) 20 := ⟨_, rfl⟩
          have hend := live_end (ke := ke) (ke' := ke') hn hr hwo hpr hne hbl P.1 P.2.2 (below_shl hk hn) hz (liveG_some (liveOK ru hn hbl) rfl)
          rw [hG]
          show _ = savedM n wo' (liveG n wo' ne' pr' ow' ke' ru ((1 : Int32) <<< (nI k &&& 31))).2.1
          rw [hend, saved_eq hn hwo, ← hz]
          rfl
        obtain ⟨U2, hU2, eA, eB⟩ := mean_sum (pa := fun k => savedI (nI n) wo (liveA wo pr ne ow ke ru (1 <<< (nI k &&& 31)) 20).1) (G := G) hn (fun k hk => ⟨(e k hk).trans (hg k).1, (hg k).1, (hg k).2⟩) hb
        rw [eA, ← eB, eU2]
      · rw [if_neg hw, if_neg hw]
    · rw [if_neg hr, if_neg hr]
  · refine ⟨0, fun z => absurd z hs, ?_⟩
    unfold meanO meanR
    rw [if_neg hs, if_neg hs]
end RULED
theorem take_ans {n : Nat} {y : Ss} {fire : Int32} : takeO (nI n) y fire = takeR n y.2.1 fire := by
  unfold takeO takeR
  rfl

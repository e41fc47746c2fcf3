theorem nwL_in : ∀ w ∈ nwL, w ∈ lw_tbl := by decide +kernel
theorem inv_start : INV 1 0 (fillF (fun _ => 0) 1 10) (fillF (fun _ => 0) 1 10) (fillF (fun _ => 0) 0 10) (fun _ => 0) 0 (fillF (fun _ => 0) 1 8) (fun _ => 0) 500 0 (fun _ => 0) (fun _ => 0) (fun _ => 0) 1 0 false 500 0 (fun _ => 0) (fillF (fun _ => 0) 0 10) (fillF (fun _ => 0) 1 10) (fillF (fun _ => 0) 1 10) (fillF (fun _ => 0) 1 9) (fillF (fun _ => 0) 0 9) (fun _ => 0) := by
  have f1 : ∀ (x : Int32) (n k : Nat), k < n → fillF (fun _ => 0) x n k = x := fun x n k hk => if_pos hk
  refine ⟨rfl, rfl, rfl, rfl, by omega, by omega, ⟨500, fun _ => 1, fun _ => 1, by omega, by omega, fun k _ => rfl, fun k _ => rfl, fun k _ => rfl, fun k hk => ?_, fun k hk => ?_, fun _ _ => (by decide : 1 ≤ 9), fun k hk => ?_, fun _ _ => (by decide : 1 ≤ 9), rfl, by omega, by omega⟩, ⟨fun _ => 1, fun t ht => ?_, fun t h1 h8 => ⟨?_, (by decide : 1 ≤ 20)⟩, ?_⟩, rfl, fun l hl => by omega, fun t ht => ?_, fun k hk => by omega⟩
  · rw [f1 _ _ k (by omega)]
    exact below_0 1
  · rw [f1 _ _ k (by omega)]
    rfl
  · rw [f1 _ _ k (by omega)]
    rfl
  · rw [f1 _ _ t ht, f1 _ _ (t + 1) (by omega)]
  · rw [f1 _ _ t (by omega)]
    rfl
  · exact ⟨fun z => absurd z (by decide), fun z => by cases z⟩
  · rw [f1 _ _ (t + 1) (by omega)]
    exact ⟨rfl, by decide⟩

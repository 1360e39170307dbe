section EBLAW
theorem eb_law (L : Nat) (xs : Nat → Int32) (hL : L ≤ 3072) : eb_Sn 1300 m_L_law (eb_h00 L xs) 0 [(0, .ref 20)] [] (eb_h00 L xs) (fun r h' => r = some (.int 1) ∧ eb_n h' ≤ 600000 ∧ eb_z h' ≤ 7302250) := by
  have E0 : eb_ini L xs (0, 0, [], []) (eb_h00 L xs) := ⟨⟨rfl, rfl⟩, fun _ _ => rfl, fun _ _ => rfl, fun _ _ => rfl, (fun e he => nomatch he), (fun e he => nomatch he), rfl, rfl⟩
  have n0 : eb_nx (eb_h00 L xs) 10 0 = 10 := rfl
  refine b_L_law_0 (d := 1299) ?_
  rw [n0]
  refine I_EB (d := 1294) (E0.nw rfl (by decide) (by decide)) (fun h1 E1 => ⟨rfl, ?_⟩)
  have n1 : eb_nx h1 11 0 = 37224459 := (E1.nx rfl).trans (by decide +kernel)
  rw [n1]
  refine I_MO (d := 1298) (E1.nw rfl (by decide) (by decide)) (fun g h4 Eg F D => ⟨rfl, ?_⟩)
  have I0 := eb_inv0 Eg F D
  exact eb_loop (eb_Inv L xs) L xs hL (fun k h i => i.ok) (fun k h i => i.up) (fun k h v1 v2 v3 v4 v5 _ i => c_feed k h v1 v2 v3 v4 v5 i) (fun k h v1 _ i => c_valley k h v1 i) (fun k h v1 _ i => c_fault k h v1 i) (fun k h v1 v2 _ i => c_cell k h v1 v2 i) (fun k h v1 _ i => c_house k h v1 i) (fun k h v1 _ i => c_why k h v1 i) (fun k h v1 v2 _ i => c_by k h v1 v2 i) (fun k h v1 _ i => c_fly k h v1 i) (fun k h v1 _ i => c_off k h v1 i) (fun k h v1 v2 _ i => c_put k h v1 v2 i) (fun k h v1 _ i => c_drift k h v1 i) (fun k h v1 _ i => c_wind k h v1 i) (fun k h v1 _ i => c_undo k h v1 i) (fun k h v1 v2 _ i => c_judge k h v1 v2 i) (fun k h v1 _ i => c_perform k h v1 i) (fun k h v1 v2 _ i => c_night k h v1 v2 i) (fun k h v1 v2 v3 _ i => c_soonest k h v1 v2 v3 i) (fun k h v1 v2 v3 v4 _ i => c_way k h v1 v2 v3 v4 i) (fun k h v1 v2 v3 v4 _ i => c_ways k h v1 v2 v3 v4 i) (fun k h v1 v2 v3 _ i => c_needed k h v1 v2 v3 i) (fun k h _ i => c_reach k h i) (fun k h _ i => c_heard k h i) (fun k h v1 _ i => c_most k h v1 i) (fun k h v1 _ i => c_tidings k h v1 i) (fun k h v1 v2 _ i => c_tiding k h v1 v2 i) (fun k h v1 v2 _ i => c_secret k h v1 v2 i) (fun k h v1 v2 v3 _ i => c_came k h v1 v2 v3 i) (fun k h v1 v2 v3 v4 _ i => c_cameBy k h v1 v2 v3 v4 i) (fun k h v1 v2 v3 _ i => c_surely k h v1 v2 v3 i) (fun k h v1 v2 v3 _ i => c_kinds k h v1 v2 v3 i) (fun k h v1 v2 _ i => c_winds k h v1 v2 i) (fun k h v1 v2 _ i => c_attempt k h v1 v2 i) (fun k h v1 v2 _ i => c_forces k h v1 v2 i) (fun k h v1 v2 _ i => c_best k h v1 v2 i) (fun k h v1 v2 v3 v4 _ i => c_chance k h v1 v2 v3 v4 i) (fun k h v1 v2 _ i => c_mean k h v1 v2 i) (fun k h v1 _ i => c_likeliest k h v1 i) (fun k h v1 v2 v3 _ i => c_numbers k h v1 v2 v3 i) (fun k h v1 v2 v3 _ i => c_write k h v1 v2 v3 i) (fun k h v1 v2 v3 v4 _ i => c_lists k h v1 v2 v3 v4 i) (fun k h v1 _ i => c_image k h v1 i) (fun k h v1 _ i => c_restore k h v1 i) (fun k h v1 _ i => c_count k h v1 i) (fun k h hk i => by
    obtain ⟨_, _, _, w, _, _, _, _, b5, b6⟩ := i
    exact ⟨rfl, by omega, by omega⟩) 512 0 h4 rfl I0
end EBLAW

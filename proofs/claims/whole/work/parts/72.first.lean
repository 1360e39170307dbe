section EBFIRST
variable {L : Nat} {xs : Nat → Int32}
/-! ===== the world at first ===== -/
theorem ee_dw0 : ee_DW ee_D0 1 1 3 0 := by
  unfold ee_DW
  decide
theorem ee_sd0 : ee_sd ee_D0 1 1 := by
  refine ⟨fun j h1 h2 => ⟨0, ?_, ?_⟩, (fun cs e => nomatch e), (fun cs e => nomatch e)⟩
  · unfold ee_B
    repeat' split
    all_goals omega
  · show (if j = 3 then (3 : Int32) else if j = 2 then 1 else if j = 1 then 1 else 0) = nI 0
    rw [if_neg (by omega), if_neg (by omega), if_neg (by omega)]
    rfl
def eb_w0 : eb_Wo := (0, fun _ => 0, (0, -1), ee_wV ee_D0 0, ee_wS ee_D0, [], fun _ => none, fun _ => none)
theorem eS_tray : ∀ i, i < 4 → es_I eS_MO.2.2.1 (s_trays_0 + 1048576 * i) 2 = 1 ∧ s_trays_0 + 1048576 * i ≠ s_m_all := by decide +kernel
theorem eS_sort : ∀ i, i < 4 → es_I eS_MO.2.2.1 s_m_rowSort i = -1 := by decide +kernel
theorem eS_hasI : ∀ i, i < 2 → es_I eS_MO.2.2.1 s_m_hasImage i = 0 := by decide +kernel
theorem eS_imgV : ∀ i, i < 2 → es_R eS_MO.2.2.2 s_imageValleys i = none := by decide +kernel
theorem eS_hts : ∀ j, j < 16 → es_I eS_MO.2.2.1 s_EB_valley0_heights j = (ee_wV ee_D0 0).ht j := by decide +kernel
theorem eS_nowT : ∀ j, j < 16 → es_I eS_MO.2.2.1 s_now_things j = eb_St.th (ee_wS ee_D0) j := by decide +kernel
theorem eS_nz : eS_MO.1 = 89 ∧ eS_MO.2.1 = 34257 := by decide +kernel
theorem eb_inv0 {g h : eb_H} (E : eb_ini L xs eS_MO g) (F : ec_fr (fun c => c = s_m_all) g h) (D : ∀ j, j < 1164 → eb_I h s_m_all j = ee_D0.1 j) : eb_Inv L xs 0 h := by
  have i : ∀ c j, c ≠ s_m_all → eb_I h c j = es_I eS_MO.2.2.1 c j := fun c j z => by
    rw [F.2.2 c z]
    exact E.2.1 c j
  have r : ∀ c j, eb_R h c j = es_R eS_MO.2.2.2 c j := fun c j => by
    rw [F.R]
    exact E.2.2.2.1 c j
  have RF := ee_RF0 (F := eb_I h s_m_all) D
  have n : eb_n h = 89 := F.1.1.trans (E.1.1.trans eS_nz.1)
  have z : eb_z h = 34257 := F.1.2.1.trans (E.1.2.trans eS_nz.2)
  refine ⟨F.ko E.ko, F.1.2.2.1.trans E.2.2.2.2.2.2.1, F.1.2.2.2.1.trans E.2.2.2.2.2.2.2, eb_w0, ?_, ?_, ?_, by omega, ?_, ?_⟩
  · refine ⟨(i s_tape 1 (by decide)).trans (by decide +kernel), fun j hj => absurd hj (Nat.not_lt_zero j), (i s_tape 7 (by decide)).trans (by decide +kernel), (i s_tape 8 (by decide)).trans (by decide +kernel), ⟨s_EB_valley0, (r s_EB 2).trans (by decide +kernel), ?_⟩, ?_, (i s_past 2 (by decide)).trans (by decide +kernel), ⟨0, by decide, (i s_past 1 (by decide)).trans (by decide +kernel), fun j hj => absurd hj (Nat.not_lt_zero j)⟩, fun j hj => ?_, fun j hj => ?_, Or.inl ⟨(r s_flights 10).trans (by decide +kernel), (r s_flights 11).trans (by decide +kernel)⟩⟩
    · refine ⟨⟨by decide, by decide, Or.inl (by decide)⟩, (i s_EB_valley0 0 (by decide)).trans (by decide +kernel), (i s_EB_valley0 1 (by decide)).trans (by decide +kernel), (i s_EB_valley0 2 (by decide)).trans (by decide +kernel), (i s_EB_valley0 3 (by decide)).trans (by decide +kernel), (i s_EB_valley0 4 (by decide)).trans (by decide +kernel), ⟨(r s_EB_valley0 5).trans (by decide +kernel), fun j hj => absurd hj (Nat.not_lt_zero j)⟩, ⟨(r s_EB_valley0 6).trans (by decide +kernel), fun j hj => ?_⟩, ?_, ?_⟩
      · exact (i s_EB_valley0_heights j (by decide)).trans (eS_hts j hj)
      · show eb_R h s_EB_valley0 7 = none
        exact (r s_EB_valley0 7).trans (by decide +kernel)
      · show eb_R h s_EB_valley0 8 = none
        exact (r s_EB_valley0 8).trans (by decide +kernel)
    · refine ⟨(i s_now 0 (by decide)).trans (by decide +kernel), (i s_now 1 (by decide)).trans (by decide +kernel), (i s_now 2 (by decide)).trans (by decide +kernel), (i s_now 3 (by decide)).trans (by decide +kernel), (i s_now 4 (by decide)).trans (by decide +kernel), (r s_now 5).trans (by decide +kernel), fun j hj => ?_⟩
      exact (i s_now_things j (by decide)).trans (eS_nowT j hj)
    · obtain ⟨t1, t2⟩ := eS_tray j hj
      show eb_I h (s_trays_0 + 1048576 * j) 2 = 1
      exact (i _ 2 t2).trans t1
    · show eb_R h s_imageValleys j = none
      exact (r s_imageValleys j).trans (eS_imgV j hj)
  · refine ⟨(i s_MO 5 (by decide)).trans (by decide +kernel), fun j hj => absurd hj (Nat.not_lt_zero j), (i s_MO 13 (by decide)).trans (by decide +kernel), (i s_MO 14 (by decide)).trans (by decide +kernel), RF.pmv ee_dw0 (by decide) (fun _ _ => rfl), RF.pms (fun _ _ => rfl), (D 52 (by decide)).trans (by decide), fun j hj => absurd hj (Nat.not_lt_zero j), fun j hj => ?_, fun j hj => ?_⟩
    · show eb_I h s_m_rowSort j = -1
      exact (i s_m_rowSort j (by decide)).trans (eS_sort j hj)
    · show eb_I h s_m_hasImage j = 0
      exact (i s_m_hasImage j (by decide)).trans (eS_hasI j hj)
  · exact ⟨Nat.zero_le _, fun j hj => absurd hj (Nat.not_lt_zero j), ee_wV_ok ee_dw0 ee_sd0, ee_wS_ok ee_dw0 ee_sd0, Nat.zero_le _, fun j hj => absurd hj (Nat.not_lt_zero j), (fun j t _ e => nomatch e), (fun j t _ e => nomatch e)⟩
  · show eb_n h + 4 * 0 ≤ 89 + 83 * 0
    omega
  · show eb_z h + 42 * 0 ≤ 34257 + 869 * 0
    omega
end EBFIRST

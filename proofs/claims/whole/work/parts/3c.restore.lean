section EBRESTORE2
variable {L : Nat} {xs : Nat → Int32}
/-- 42: restore -/
theorem c_restore (k : Nat) (h : eb_H) (v1 : Int32) (inv : eb_Inv L xs k h) : eb_Pr 137 281 [.int v1] (eb_Inv L xs (k + 1)) h := by
  have inv2 := inv.z0 (v := 0)
  obtain ⟨ko, eL, eX, w, b1, b2, b3, b4, b5, b6⟩ := inv
  have m1 : ((¬ (v1.toInt64 < 0)) ∧ (¬ (1 < v1.toInt64))) ↔ (0 ≤ v1.toInt ∧ v1.toInt < 2) := by rw [eb_l64a, eb_l64b, eb_z64, eb_d1]; omega
  by_cases rg : 0 ≤ v1.toInt ∧ v1.toInt < 2
  · have hi : v1.toInt.toNat < 2 := by omega
    have vi : vp_in v1 2 := vp_in_iff.mpr (by omega)
    have n0 : ¬ v1 < 0 := by rw [eb_i32, eb_z32]; omega
    have n2 : v1 < (2 : Int32) := by rw [eb_i32, eb_c2]; omega
    have pi := b1.img _ hi
    have mi := (b2.z0 (v := 0)).img _ hi
    cases ht : w.img v1.toInt.toNat with
    | none =>
      rw [ht] at pi mi
      have pi' : eb_R h s_imageValleys v1.toNatClampNeg = none := pi
      have mi' : eb_I (eb_sI h s_MO 0 0) s_m_hasImage v1.toNatClampNeg = 0 := mi
      have M : eb_Ct 1299 281 [.ref s_MO, .int v1] h (fun r2 h2 => r2 = some (.int (-5)) ∧ eb_Inv L xs (k + 1) h2) :=
        T_X11_restore (d := 1298) v1 ko ⟨fun _ => ⟨vi, fun c => absurd mi' c, fun _ => ⟨rfl, inv2⟩⟩, fun c => absurd (m1.mpr rg) c⟩
      refine T_X10_restore (d := 1298) v1 ko ⟨fun c => absurd c n0, fun _ => ⟨fun _ => ⟨vi, fun _ => ⟨_, rfl, ko, rfl, rfl, M⟩, fun r5 e5 => ?_⟩, fun c => absurd n2 c⟩⟩
      rw [pi'] at e5
      exact absurd e5 (by simp)
    | some t =>
      rw [ht] at pi mi
      obtain ⟨⟨v, ev, pv⟩, ps0⟩ := pi
      have ev' : eb_R h s_imageValleys v1.toNatClampNeg = some v := ev
      obtain ⟨ok1, ok2⟩ := b3.img _ t hi ht
      refine T_X10_restore (d := 1298) v1 ko ⟨fun c => absurd c n0, fun _ => ⟨fun _ => ⟨vi, fun c => ?_, fun r5 e5 => ?_⟩, fun c => absurd n2 c⟩⟩
      · rw [ev'] at c
        exact absurd c (by simp)
      · rw [ev'] at e5
        cases e5
        have ko1 : eb_KO (eb_sR h s_EB 2 (some v)) := ko_sR (by decide) ko
        obtain ⟨r1, r2, r3⟩ := eb_ims ko1 hi
        refine ⟨vi, pv.1.1, vi, _, r1, ?_⟩
        have pn : PXS (eb_sR h s_EB 2 (some v)) (s_imageStates_0 + 1048576 * v1.toInt.toNat) t.2 := ps0.mv rfl (eb_R_sRn (by unfold s_EB s_imageStates_0; omega)) rfl
        refine C_become (d := 1297) s_now _ t.2 (by unfold eb_isS; decide) r2 (by unfold s_now s_imageStates_0; omega) (ko_s_now_5 ko1) pn ko1 ?_
        intro h' ps nz sm
        have ko2 := nz.ko ko1
        refine ⟨rfl, ko2, T_X4_forget ko2 ⟨rfl, ko2, 0, rfl, ko2, nz.2.2.1, nz.2.2.2.1, ?_⟩⟩
        have tot : eb_same (fun c => c ≠ s_EB ∧ c ≠ s_now ∧ c ≠ s_now + 524807 ∧ c ≠ s_past) h (eb_sI h' s_past 2 0) := (eb_same.trans (eb_same.rfl.sR (fun z => z.1 rfl)) (sm.weak (fun c z => ⟨z.2.1, z.2.2.1⟩))).sI (fun z => z.2.2.2 rfl)
        have pX : PX (w.setAt t.1 t.2) (eb_sI h' s_past 2 0) := by
          refine b1.setAt t.1 t.2 v tot ?_ (pv.mv (tot.weak (fun c y => ?_))) (ps.mv (eb_I_sIn (by decide)) rfl (eb_I_sIn (by decide))) eb_I_sI' ?_
          · rw [eb_R_sI, nz.2.2.2.2, eb_R_sR, if_pos rfl]
          · unfold eb_isV at y
            refine ⟨fun e => ?_, fun e => ?_, fun e => ?_, fun e => ?_⟩
            · rw [e] at y; unfold eb_ix s_EB at y; omega
            · rw [e] at y; unfold eb_ix s_now at y; omega
            · rw [e] at y; unfold eb_ix s_now at y; omega
            · rw [e] at y; unfold eb_ix s_past at y; omega
          · rw [eb_I_sI, if_neg (by decide), (sm s_past (by decide)).1]
            rfl
        have pM : PM w (eb_sI (eb_sI h' s_past 2 0) s_MO 0 0) := by
          refine (b2.mv (tot.weak (fun c y => ?_))).z0
          unfold eb_isM at y
          refine ⟨fun e => ?_, fun e => ?_, fun e => ?_, fun e => ?_⟩
          · rw [e] at y; unfold eb_ix s_EB at y; omega
          · rw [e] at y; unfold eb_ix s_now at y; omega
          · rw [e] at y; unfold eb_ix s_now at y; omega
          · rw [e] at y; unfold eb_ix s_past at y; omega
        have mh := pM.img _ hi
        rw [ht] at mh
        have mh' : eb_I (eb_sI (eb_sI h' s_past 2 0) s_MO 0 0) s_m_hasImage v1.toNatClampNeg = 1 := mh.1
        refine T_X11_restore (d := 1298) v1 ko2 ⟨fun _ => ⟨vi, fun _ => ?_, fun c => ?_⟩, fun c => absurd (m1.mpr rg) c⟩
        · refine M_res_l v1 rg 1164 0 _ (by omega) ko2 (fun q hq => absurd hq (by omega)) ?_
          intro g' q1 q2 q3 q4 q5
          refine ⟨rfl, q2.ko ko2, (q2.2.2.1.trans nz.2.2.1).trans eL, (q2.2.2.2.1.trans nz.2.2.2.1).trans eX, w.setAt t.1 t.2, ?_, ?_, b3.setAt _ _ ok1 ok2, ?_, ?_, ?_⟩
          · refine pX.mvM ?_
            have nm : ∀ c, eb_isM c → ¬ ¬ eb_isM c := fun _ z y => y z
            refine (eb_same.trans (eb_same.rfl.sI (nm s_MO (by unfold eb_isM eb_ix s_MO; omega))) (q1.weak (fun c z y => z ?_))).sI (nm s_m_all (by unfold eb_isM eb_ix s_m_all; omega))
            rw [y]
            unfold eb_isM eb_ix s_m_all
            omega
          · refine pM.setAt b3 hi t ht (fun c y => ?_) q3 (fun q hq => ?_) (fun q hq hn => ?_) eb_I_sI'
            · rw [eb_I_sIn y, (q1 c y).1]
            · rw [eb_I_sI, if_neg (by omega)]; exact q4 q hq
            · rw [eb_I_sI, if_neg hn]; exact q5 q hq
          · show 89 ≤ eb_n g'
            rw [q2.1]
            show 89 ≤ eb_n h'
            rw [nz.1]; exact b4
          · show eb_n g' + 4 * w.fed ≤ _
            rw [q2.1]
            show eb_n h' + 4 * w.fed ≤ _
            rw [nz.1]
            show eb_n h + 4 * w.fed ≤ _
            omega
          · show eb_z g' + 42 * w.fed ≤ _
            rw [q2.2.1]
            show eb_z h' + 42 * w.fed ≤ _
            rw [nz.2.1]
            show eb_z h + 42 * w.fed ≤ _
            omega
        · rw [mh'] at c
          exact absurd c (by decide)
  · have M : eb_Ct 1299 281 [.ref s_MO, .int v1] h (fun r2 h2 => r2 = some (.int (-2)) ∧ eb_Inv L xs (k + 1) h2) :=
      T_X11_restore (d := 1298) v1 ko ⟨fun c => absurd (m1.mp c) rg, fun _ => ⟨rfl, inv2⟩⟩
    refine T_X10_restore (d := 1298) v1 ko ⟨fun c => ⟨_, rfl, ko, rfl, rfl, M⟩, fun c => ⟨fun c2 => ?_, fun _ => ⟨_, rfl, ko, rfl, rfl, M⟩⟩⟩
    exfalso
    rw [eb_i32, eb_c2] at c2
    rw [eb_i32, eb_z32] at c
    omega
end EBRESTORE2

section EBWRITE
variable {L : Nat} {xs : Nat → Int32}
theorem eb_c4 : (4 : Int32).toInt = 4 := by decide
theorem eb_d3 : (3 : Int64).toInt = 3 := by decide
theorem eb_c40 : (40 : Int32).toInt = 40 := by decide
theorem eb_d40 : (40 : Int64).toInt = 40 := by decide
/-- 39: write -/
theorem c_write (k : Nat) (h : eb_H) (v1 v2 : Int32) (v3 : Int64) (inv : eb_Inv L xs k h) : eb_PrL 134 278 [.int v1, .int v2, .long v3] (eb_Inv L xs (k + 1)) h := by
  have inv2 := inv.z0 (v := 0)
  obtain ⟨ko, eL, eX, w, b1, b2, b3, b4, b5, b6⟩ := inv
  by_cases rg : 0 ≤ v1.toInt ∧ v1.toInt < 4
  · have hi : v1.toInt.toNat < 4 := by omega
    have vi : vp_in v1 4 := vp_in_iff.mpr (by omega)
    obtain ⟨r1, r2, r3, r4, r5⟩ := eb_trs ko hi
    have T := b1.tray _ hi
    have T2 := (b2.z0 (v := 0)).tray _ hi
    have nc : ¬ ((v1 < 0) ∨ (¬ (v1 < (4 : Int32)))) := by rw [eb_i32, eb_i32, eb_z32, eb_c4]; omega
    have mc : (¬ (v1.toInt64 < 0)) ∧ (¬ (3 < v1.toInt64)) := by rw [eb_l64a, eb_l64b, eb_z64, eb_d3]; omega
    cases ht : w.tray v1.toInt.toNat with
    | none =>
      rw [ht] at T T2
      have T2' : eb_I (eb_sI h s_MO 0 0) s_m_rowSort v1.toNatClampNeg = -1 := T2
      refine T_X10_write (d := 1298) v1 v2 v3 ko ⟨fun _ => ⟨vi, _, r1, r2, fun c => ?_, fun _ => ⟨_, rfl, ko, rfl, rfl, ?_⟩⟩, fun c => absurd c nc⟩
      · exfalso
        have T' : eb_I h (s_trays_0 + 1048576 * v1.toInt.toNat) 2 = 1 := T
        rw [T'] at c
        exact absurd c (by decide)
      · refine T_X11_write (d := 1298) v1 v2 v3 ko (T_X11_noTray (d := 1297) v1 ko ⟨fun _ => ⟨vi, _, rfl, ko, fun c => ?_, fun _ => ?_⟩, fun c => absurd mc c⟩)
        · rw [if_pos T2'] at c
          exact absurd c (by decide)
        · rw [if_pos T2']
          exact ⟨rfl, inv2⟩
    | some t =>
      rw [ht] at T T2
      obtain ⟨t1, t2, t3, t4⟩ := T
      obtain ⟨u1, u2, u3⟩ := T2
      obtain ⟨o1, o2⟩ := b3.tray _ t hi ht
      have u1' : eb_I (eb_sI h s_MO 0 0) s_m_rowSort v1.toNatClampNeg = t.sort := u1
      have u2' : eb_I (eb_sI h s_MO 0 0) s_m_rowMany v1.toNatClampNeg = t.size := u2
      have ns : ¬ t.sort = -1 := fun z => by
        rw [z] at o1
        exact absurd o1.1 (by decide)
      have em : (t.size - 1).toInt = t.size.toInt - 1 := by
        have e := eb_ofn o2.1
        rw [e]
        rw [show nI t.size.toInt.toNat - 1 = nI t.size.toInt.toNat - nI 1 from rfl, pk_sub_toInt (by omega) (by omega), nI_toInt (by omega)]
        rfl
      by_cases rj : 0 ≤ v2.toInt ∧ v2.toInt < t.size.toInt
      · have vj : vp_in v2 40 := vp_in_iff.mpr (by omega)
        have idx := eb_4i rg ⟨rj.1, by omega⟩
        have vx : vp_in ((40 : Int32) * v1 + v2) 160 := by rw [idx]; exact vp_in_nI (by omega) (by omega)
        have tx : ((40 : Int32) * v1 + v2).toNatClampNeg = 40 * v1.toInt.toNat + v2.toInt.toNat := by
          rw [idx, eb_tnc, nI_toInt (by omega)]; omega
        have nl : ¬ (Int32.ofNat (eb_ln (s_trays_0_values + 1048576 * v1.toInt.toNat))) ≤ v2 := by
          rw [r5, eb_i32e, show (Int32.ofNat 40).toInt = 40 by decide]; omega
        have n0 : ¬ v2 < 0 := by rw [eb_i32, eb_z32]; omega
        have nz : v2 < eb_I h (s_trays_0 + 1048576 * v1.toInt.toNat) 3 := by rw [t3, eb_i32]; omega
        have vv : vp_in v2 (eb_ln (s_trays_0_values + 1048576 * v1.toInt.toNat)) := by rw [r5]; exact vj
        refine T_X10_write (d := 1298) v1 v2 v3 ko ⟨fun _ => ⟨vi, _, r1, r2, fun _ => ⟨fun c => absurd c n0, fun _ => ⟨fun _ => ?_, fun c => absurd nz c⟩⟩, fun c => absurd t1 c⟩, fun c => absurd c nc⟩
        refine T_X8_setNumber (d := 1297) _ v2 v3 r2 ko ⟨fun c => absurd c n0, fun _ => ⟨_, r3, r4, fun c => absurd c nl, fun _ => ?_⟩⟩
        refine C_cut _ v3 r2 ko ⟨_, rfl, ko, vv, rfl, ko, _, r3, r4, fun c => absurd c nl, fun _ => ⟨vv, _, rfl, ko, rfl, rfl, ?_⟩⟩
        rw [t2]
        have sx : eb_same (fun c => c ≠ s_trays_0 + 1048576 * v1.toInt.toNat ∧ c ≠ s_trays_0_values + 1048576 * v1.toInt.toNat) h (eb_sJ h (s_trays_0_values + 1048576 * v1.toInt.toNat) v2.toNatClampNeg (eb_cut t.sort v3)) := eb_same.rfl.sJ (fun z => z.2 rfl)
        have pX : PX (w.setTray v1.toInt.toNat (t.sort, t.size, fun j => if j = v2.toInt.toNat then eb_cut t.sort v3 else t.val j)) (eb_sJ h (s_trays_0_values + 1048576 * v1.toInt.toNat) v2.toNatClampNeg (eb_cut t.sort v3)) := by
          refine b1.setTray hi _ sx ⟨t1, t2, t3, fun j hj hz => ?_⟩
          rw [eb_J_sJ]
          show _ = if j = v2.toInt.toNat then eb_cut t.sort v3 else t.val j
          rw [show v2.toNatClampNeg = v2.toInt.toNat from rfl]
          by_cases e : j = v2.toInt.toNat
          · rw [if_pos e, if_pos e]
          · rw [if_neg e, if_neg e]; exact t4 j hj hz
        have pM : PM w (eb_sI (eb_sJ h (s_trays_0_values + 1048576 * v1.toInt.toNat) v2.toNatClampNeg (eb_cut t.sort v3)) s_MO 0 0) := by
          refine (b2.mv (eb_same.rfl.sJ ?_)).z0
          unfold eb_isM eb_ix s_trays_0_values
          omega
        have nzg : eb_nz h (eb_sJ h (s_trays_0_values + 1048576 * v1.toInt.toNat) v2.toNatClampNeg (eb_cut t.sort v3)) := ⟨rfl, rfl, rfl, rfl, rfl⟩
        have hgv : eb_J (eb_sJ h (s_trays_0_values + 1048576 * v1.toInt.toNat) v2.toNatClampNeg (eb_cut t.sort v3)) (s_trays_0_values + 1048576 * v1.toInt.toNat) v2.toNatClampNeg = eb_cut t.sort v3 := by rw [eb_J_sJ, if_pos rfl]
        rw [hgv]
        generalize eb_sJ h (s_trays_0_values + 1048576 * v1.toInt.toNat) v2.toNatClampNeg (eb_cut t.sort v3) = g at *
        have koG := nzg.ko ko
        have TG := pM.tray _ hi
        rw [ht] at TG
        obtain ⟨y1, y2, y3⟩ := TG
        have y1' : eb_I (eb_sI g s_MO 0 0) s_m_rowSort v1.toNatClampNeg = t.sort := y1
        have y2' : eb_I (eb_sI g s_MO 0 0) s_m_rowMany v1.toNatClampNeg = t.size := y2
        refine T_X11_write (d := 1298) v1 v2 v3 koG (T_X11_noTray (d := 1297) v1 koG ⟨fun _ => ⟨vi, _, rfl, koG, fun _ => ⟨vi, fun _ => ⟨vi, T_X11_cut v3 _ koG ⟨_, rfl, koG, vx, vx, ?_, ?_⟩⟩, fun c => ?_⟩, fun c => ?_⟩, fun c => absurd mc c⟩)
        · rw [eb_J_sJ, if_pos rfl]
          show some (Value.long (eb_cut (eb_I (eb_sI g s_MO 0 0) s_m_rowSort v1.toNatClampNeg) v3)) = _
          rw [y1']
        · rw [tx, y1']
          refine ⟨koG, nzg.2.2.1.trans eL, nzg.2.2.2.1.trans eX, w.setTray v1.toInt.toNat (t.sort, t.size, fun j => if j = v2.toInt.toNat then eb_cut t.sort v3 else t.val j), pX.mvM ((eb_same.rfl.sI (fun z => z (by unfold eb_isM eb_ix s_MO; omega))).sJ (fun z => z (by unfold eb_isM eb_ix s_m_numbers; omega))), ?_, b3.setTray _ _ ⟨o1, o2⟩, ?_, ?_, ?_⟩
          · refine pM.setTray b3 hi _ (fun c _ _ => rfl) (fun j _ => ⟨rfl, rfl⟩) (fun j hj => ?_) ⟨y1, y2, fun j hj hz => ?_⟩
            · rw [eb_J_sJ, if_neg (by omega)]
            · rw [eb_J_sJ]
              show _ = if j = v2.toInt.toNat then eb_cut t.sort v3 else t.val j
              by_cases e : j = v2.toInt.toNat
              · rw [if_pos e, if_pos (by omega)]; rfl
              · rw [if_neg e, if_neg (by omega)]; exact y3 j hj hz
          · show 89 ≤ eb_n g
            rw [nzg.1]; exact b4
          · show eb_n g + 4 * w.fed ≤ _
            rw [nzg.1]; omega
          · show eb_z g + 42 * w.fed ≤ _
            rw [nzg.2.1]; omega
        · exfalso
          apply c
          rw [y2', eb_l64a, eb_l64, em, eb_z64]
          omega
        · exfalso
          apply c
          rw [y1', if_neg ns]
      · have M7 : eb_Ct 1299 278 [.ref s_MO, .int v1, .int v2, .long v3] h (fun r2 h2 => r2 = some (.long (-7)) ∧ eb_Inv L xs (k + 1) h2) := by
          refine T_X11_write (d := 1298) v1 v2 v3 ko (T_X11_noTray (d := 1297) v1 ko ⟨fun _ => ⟨vi, _, rfl, ko, fun _ => ⟨vi, fun c => ?_, fun _ => ⟨rfl, inv2⟩⟩, fun c => ?_⟩, fun c => absurd mc c⟩)
          · exfalso
            rw [u2', eb_l64a, eb_l64, em, eb_z64] at c
            omega
          · exfalso
            apply c
            rw [u1', if_neg ns]
        refine T_X10_write (d := 1298) v1 v2 v3 ko ⟨fun _ => ⟨vi, _, r1, r2, fun _ => ⟨fun _ => ⟨_, rfl, ko, rfl, rfl, M7⟩, fun c => ⟨fun c2 => ?_, fun _ => ⟨_, rfl, ko, rfl, rfl, M7⟩⟩⟩, fun c => absurd t1 c⟩, fun c => absurd c nc⟩
        exfalso
        rw [t3, eb_i32] at c2
        rw [eb_i32, eb_z32] at c
        omega
  · refine T_X10_write (d := 1298) v1 v2 v3 ko ⟨fun c => ?_, fun _ => ⟨_, rfl, ko, rfl, rfl, ?_⟩⟩
    · exfalso
      rw [eb_i32, eb_i32, eb_z32, eb_c4] at c
      omega
    · refine T_X11_write (d := 1298) v1 v2 v3 ko (T_X11_noTray (d := 1297) v1 ko ⟨fun c => ?_, fun _ => ⟨_, rfl, ko, fun c => absurd c (by decide), fun _ => ⟨rfl, inv2⟩⟩⟩)
      exfalso
      rw [eb_l64a, eb_l64b, eb_z64, eb_d3] at c
      omega
end EBWRITE

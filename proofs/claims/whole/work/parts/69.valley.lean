section EBVALLEY2
variable {L : Nat} {xs : Nat → Int32}
theorem ee_lns_24 {tx : Nat → Nat} {n a b c : Nat} (hn : n ≤ 900) : ∀ (f p : Nat) (D : ee_D), (ee_lns tx n a b c f p D).2.1 = none → ee_k tx n (ee_lns tx n a b c f p D).1 = 24
  | 0, p, D, h => by cases h
  | f + 1, p, D, h => by
    unfold ee_lns at h ⊢
    by_cases k24 : ee_k tx n p = 24
    · rw [if_pos k24]
      exact k24
    · rw [if_neg k24, ee_rb_rb] at h ⊢
      generalize ee_rb (ee_line tx n p a b c (D.1 4).toNatClampNeg D) (fun p1 D1 => ee_end tx n p1 D1) = r at h ⊢
      cases hl : r.2.1 with
      | some y => rw [ee_rb_f hl] at h; cases h
      | none =>
        rw [ee_rb_n hl] at h ⊢
        exact ee_lns_24 hn f _ _ h
theorem ee_text_24 {tx : Nat → Nat} {n : Nat} (hn : n ≤ 900) (h : (ee_text tx n).2.1 = none) : ee_k tx n (ee_text tx n).1 = 24 := by
  unfold ee_text at h ⊢
  cases ho : (ee_opn tx n).2.1 with
  | some y => rw [ee_rb_f ho] at h; cases h
  | none =>
    rw [ee_rb_n ho] at h ⊢
    exact ee_lns_24 hn _ _ _ h
theorem PM.fed0 {w : eb_Wo} {h h' : eb_H} {F : Int32 × Int32} (p : PM w h) (ok : eb_okW w) (m5 : eb_I h' s_MO 5 = 0) (m13 : eb_I h' s_MO 13 = F.1) (m14 : eb_I h' s_MO 14 = F.2) (qa : eb_I h' s_m_all = eb_I h s_m_all) (q3 : eb_I h' s_m_rowSort = eb_I h s_m_rowSort) (q4 : eb_I h' s_m_rowMany = eb_I h s_m_rowMany) (q6 : eb_I h' s_m_hasImage = eb_I h s_m_hasImage) (hJ : eb_J h' = eb_J h) : PM (w.fed0 F) h' := by
  refine ⟨m5, fun j hj => absurd hj (Nat.not_lt_zero j), m13, m14, p.va.mvB ok.va (fun q _ _ => by rw [qa]), p.now.mvB (fun q _ => by rw [qa]), by rw [qa]; exact p.size, fun i hi => (p.past i hi).mvB (fun q _ => congrFun qa _), ?_, ?_⟩
  · intro j hj
    have p1 := p.tray j hj
    show PMT h' j (w.tray j)
    cases hq : w.tray j with
    | none => rw [hq] at p1; unfold PMT at p1 ⊢; rw [q3]; exact p1
    | some z => rw [hq] at p1; unfold PMT at p1 ⊢; rw [q3, q4, hJ]; exact p1
  · intro j hj
    show PMI h' j (w.img j)
    have p1 := p.img j hj
    cases hq : w.img j with
    | none => rw [hq] at p1; unfold PMI at p1 ⊢; rw [q6]; exact p1
    | some z =>
      rw [hq] at p1
      unfold PMI at p1 ⊢
      rw [q6]
      exact ⟨p1.1, p1.2.1.mvB (ok.img j z hj hq).1 (fun q _ _ => by rw [qa]), p1.2.2.mvB (fun q _ => by rw [qa])⟩
theorem PM.newV {w : eb_Wo} {h h' : eb_H} {V : eb_Va} {s : eb_St} (p : PM w h) (ok : eb_okW w) (m5 : eb_I h' s_MO 5 = 0) (m13 : eb_I h' s_MO 13 = 0) (m14 : eb_I h' s_MO 14 = -1) (pv : PMV h' 0 V) (ps : PMS h' 31 s) (h52 : eb_I h' s_m_all 52 = 0) (ho : ∀ q, 1164 ≤ q → eb_I h' s_m_all q = eb_I h s_m_all q) (q3 : eb_I h' s_m_rowSort = eb_I h s_m_rowSort) (q4 : eb_I h' s_m_rowMany = eb_I h s_m_rowMany) (q6 : eb_I h' s_m_hasImage = eb_I h s_m_hasImage) (hJ : eb_J h' = eb_J h) : PM ((w.fed0 (0, -1)).setAt V s) h' := by
  refine ⟨m5, fun j hj => absurd hj (Nat.not_lt_zero j), m13, m14, pv, ps, h52, fun j hj => absurd hj (Nat.not_lt_zero j), ?_, ?_⟩
  · intro j hj
    have p1 := p.tray j hj
    show PMT h' j (w.tray j)
    cases hq : w.tray j with
    | none => rw [hq] at p1; unfold PMT at p1 ⊢; rw [q3]; exact p1
    | some z => rw [hq] at p1; unfold PMT at p1 ⊢; rw [q3, q4, hJ]; exact p1
  · intro j hj
    show PMI h' j (w.img j)
    have p1 := p.img j hj
    cases hq : w.img j with
    | none => rw [hq] at p1; unfold PMI at p1 ⊢; rw [q6]; exact p1
    | some z =>
      rw [hq] at p1
      unfold PMI at p1 ⊢
      rw [q6]
      exact ⟨p1.1, p1.2.1.mvB (ok.img j z hj hq).1 (fun q _ _ => ho _ (by omega)), p1.2.2.mvB (fun q _ => ho _ (by omega))⟩
theorem ee_nI0 : nI 0 = 0 := rfl
/-- 2: valley -/
theorem c_valley (k : Nat) (h : eb_H) (v1 : Int32) (inv : eb_Inv L xs k h) : eb_Pr 97 188 [.int v1] (eb_Inv L xs (k + 1)) h := by
  refine eb_prw inv (fun wf al => ?_)
  have inv2 := inv.z0 (v := 0)
  obtain ⟨ko, eL, eX, w, b1, b2, b3, b4, b5, b6⟩ := inv
  have f9 := b3.fed
  have e1 : eb_I h s_tape 1 = nI w.fed := b1.fed
  have e5 : eb_I (eb_sI h s_MO 0 0) s_MO 5 = nI w.fed := by rw [eb_I_sI, if_neg (by decide)]; exact b2.fed
  have tf := nI_toInt (n := w.fed) (by omega)
  have c0 : (v1 < 0) ↔ v1.toInt < 0 := by rw [eb_i32, eb_z32]
  have c1 : (v1 ≤ eb_I h s_tape 1) ↔ v1.toInt ≤ (w.fed : Int) := by rw [e1, eb_i32e, tf]
  have m1 : ((¬ (v1.toInt64 < 0)) ∧ (¬ ((eb_I (eb_sI h s_MO 0 0) s_MO 5).toInt64 < v1.toInt64))) ↔ (0 ≤ v1.toInt ∧ v1.toInt ≤ (w.fed : Int)) := by
    rw [eb_l64a, eb_z64, e5, eb_l64, tf]
    omega
  by_cases rg : 0 ≤ v1.toInt ∧ v1.toInt ≤ (w.fed : Int)
  · have ev := eb_ofn rg.1
    have hnf : v1.toInt.toNat ≤ w.fed := by omega
    generalize v1.toInt.toNat = n at ev hnf
    have hn : n ≤ 900 := by omega
    have tw : ∀ j, j < n → (w.text j) = nI ((w.text j).toInt.toNat) ∧ (w.text j).toInt.toNat < 256 := fun j hj => by
      have := b3.text j (by omega)
      exact ⟨eb_ofn this.1, by omega⟩
    have ht : ∀ j, j < n → (fun j => (w.text j).toInt.toNat) j < 256 := fun j hj => (tw j hj).2
    have tt : ∀ j, j < n → eb_I h s_tape_text j = (nI ((fun j => (w.text j).toInt.toNat) j)).toInt8.toInt32 := fun j hj => by
      rw [b1.text j (by omega)]
      show _ = (nI (w.text j).toInt.toNat).toInt8.toInt32
      rw [← (tw j hj).1]
    generalize etx : (fun j => (w.text j).toInt.toNat) = tx at ht tt
    have et0 : ∀ j, j < n → w.text j = nI (tx j) := fun j hj => by
      rw [← etx]
      exact (tw j hj).1
    refine T_X10_valley (d := 1298) v1 ko ⟨fun z => absurd (c0.mp z) (by omega), fun _ => ⟨fun _ => ?_, fun z => absurd (c1.mpr rg.2) z⟩⟩
    rw [ev]
    clear ev c0 c1 m1 rg e5
    refine C_text (d := 1288) ht hn tt ko b4 (eb_nx h 9 0) rfl (fun h3 x3 => ?_)
    generalize eb_nx h 9 0 = v at x3
    have eg : ∀ q : Nat, eb_n (eb_sR h s_reader 2 (some v)) = eb_n h ∧ eb_z (eb_sR h s_reader 2 (some v)) = eb_z h := fun _ => ⟨rfl, rfl⟩
    rcases x3 with ⟨y, ey, ⟨B, p, hp, t⟩, rx⟩ | ⟨en, xr, rm⟩
    · have f7 : eb_I h3 s_tape 7 = y.1 := t.2.2.2.2.2.1
      have f8 : eb_I h3 s_tape 8 = y.2 := t.2.2.2.2.2.2.1
      have y0 : y.1 ≠ 0 := t.2.2.2.2.2.2.2
      have pX := b1.read wf al ko B f7 f8
      have pM := b2.read B
      have k3 : eb_KO (eb_sI h3 s_tape 1 0) := B.ko
      have g7 : eb_I (eb_sI h3 s_tape 1 0) s_tape 7 = y.1 := by rw [eb_I_sI, if_neg (by decide)]; exact f7
      have n3 : eb_n (eb_sI h3 s_tape 1 0) ≤ eb_n h + 83 + 4 * n := rx.1
      have z3 : eb_z (eb_sI h3 s_tape 1 0) ≤ eb_z h + 869 + 42 * n := rx.2
      have l3 : 89 ≤ eb_n (eb_sI h3 s_tape 1 0) := Nat.le_trans b4 B.1.1.1.1
      have L3 : eb_XL (eb_sI h3 s_tape 1 0) = eb_XL h := B.1.1.1.2.1
      have X3 : eb_X (eb_sI h3 s_tape 1 0) = eb_X h := B.1.1.1.2.2
      refine ⟨rfl, B.ko, fun z => absurd (g7.symm.trans z) y0, fun _ => ?_⟩
      rw [g7]
      clear f7 f8 rx t g7
      generalize eb_sI h3 s_tape 1 0 = H1 at pX pM k3 n3 z3 l3 L3 X3 ⊢
      refine ⟨_, rfl, k3, L3, X3, ?_⟩
      refine M_text (d := 1231) (fed := w.fed) ht hnf f9 pM.fed (fun j hj => (pM.text j (by omega)).trans (et0 j hj)) k3 (fun h' F' m5 m0 k' mq k24 => ?_)
      rcases mq with ⟨y', ey', w'⟩ | ⟨en', _⟩
      · have : y' = y := by
          rw [ey] at ey'
          cases ey'
          rfl
        subst this
        refine M_exf w' k' ⟨rfl, ?_⟩
        have n' : eb_n h' = eb_n H1 := F'.1.1.1
        have z' : eb_z h' = eb_z H1 := F'.1.1.2.1
        refine ⟨k', (F'.1.1.2.2.1.trans L3).trans eL, (F'.1.1.2.2.2.1.trans X3).trans eX, w.fed0 y', pX.mvM ?_, ?_, b3.fed0 y', ?_, ?_, ?_⟩
        · have im1 : eb_isM s_MO := by unfold eb_isM; decide
          have im2 : eb_isM s_m_fresh := by unfold eb_isM; decide
          exact ((F'.1.same (Z := fun c => ¬ eb_isM c) (fun c z u => z (u.elim (fun e => by rw [e]; exact im1) (fun e => by rw [e]; exact im2)))).sI (fun z => z im1)).sI (fun z => z im1)
        · have ne : ∀ c, c ≠ s_MO → c ≠ s_m_fresh → eb_I (eb_sI (eb_sI h' s_MO 13 y'.1) s_MO 14 y'.2) c = eb_I H1 c := fun c z1 z2 => by
            rw [eb_I_sIn z1, eb_I_sIn z1]
            exact F'.1.2.2 c (fun u => u.elim z1 z2)
          refine pM.fed0 b3 ?_ ?_ ?_ (ne _ (by decide) (by decide)) (ne _ (by decide) (by decide)) (ne _ (by decide) (by decide)) (ne _ (by decide) (by decide)) F'.1.2.1
          · rw [eb_I_sI, if_neg (by decide), eb_I_sI, if_neg (by decide)]; exact m5
          · rw [eb_I_sI, if_neg (by decide), eb_I_sI']
          · rw [eb_I_sI']
        · show 89 ≤ eb_n h'
          omega
        · show eb_n h' + 4 * 0 ≤ _
          omega
        · show eb_z h' + 42 * 0 ≤ _
          omega
      · rw [ey] at en'
        cases en'
    · obtain ⟨a, b, c, s, dw, sd⟩ := ee_sd_text hn en
      have k24 := ee_text_24 hn en
      have t := xr.2.1
      rw [(ee_nf_n hn).mpr (by omega)] at t
      have f7 : eb_I h3 s_tape 7 = 0 := t.2.2.2.2.2.1
      have f8 : eb_I h3 s_tape 8 = -1 := t.2.2.2.2.2.2
      have B := xr.1
      have hv := B.vk
      have pX1 := b1.read (F := (0, -1)) wf al ko B f7 f8
      have pM1 := b2.read B
      have pv3 := xr.pxv dw sd
      have ps3 := xr.pxs
      have hp := xr.2.2.2.2
      have ln3 : eb_I h3 v 3 = (ee_text tx n).2.2.1 0 := xr.2.2.1 0 (by decide) (by decide)
      have vt : v ≠ s_tape := (ee_ce_ne (t := 0) hv (by decide)).1
      have g7 : eb_I (eb_sI h3 s_tape 1 0) s_tape 7 = 0 := by rw [eb_I_sI, if_neg (by decide)]; exact f7
      have n3 : eb_n (eb_sI h3 s_tape 1 0) ≤ eb_n h + 3 + 4 * (ee_text tx n).1 := rm.1
      have z3 : eb_z (eb_sI h3 s_tape 1 0) ≤ eb_z h + 29 + 11 * (ee_text tx n).1 := rm.2
      have l3 : 89 ≤ eb_n (eb_sI h3 s_tape 1 0) := Nat.le_trans b4 B.1.1.1.1
      have L3 : eb_XL (eb_sI h3 s_tape 1 0) = eb_XL h := B.1.1.1.2.1
      have X3 : eb_X (eb_sI h3 s_tape 1 0) = eb_X h := B.1.1.1.2.2
      have k3 : eb_KO (eb_sI h3 s_tape 1 0) := B.ko
      have rv : eb_R (eb_sI h3 s_tape 1 0) s_reader 2 = some v := B.2.2.2.1
      have pvs : PXV (eb_sI h3 s_tape 1 0) v (ee_wV (ee_text tx n).2.2 s) := pv3.mv (eb_same.rfl.sI (by unfold eb_isV eb_ix s_tape; omega))
      have pss : PXS (eb_sI h3 s_tape 1 0) s_reader_start (ee_wS (ee_text tx n).2.2) := ps3.mv (eb_I_sIn (by decide)) rfl (eb_I_sIn (by decide))
      have lns : eb_I (eb_sI h3 s_tape 1 0) v 3 = (ee_text tx n).2.2.1 0 := by rw [eb_I_sIn vt]; exact ln3
      refine ⟨rfl, B.ko, fun _ => ⟨v, rv, hv.1, ?_⟩, fun z => absurd g7 z⟩
      clear f7 f8 rm t g7 pv3 ps3 ln3
      generalize eb_sI h3 s_tape 1 0 = Hs at pX1 pM1 n3 z3 l3 L3 X3 k3 rv pvs pss lns ⊢
      have ko1 : eb_KO (eb_sR Hs s_EB 2 (some v)) := ko_sR (by decide) k3
      have pn : PXS (eb_sR Hs s_EB 2 (some v)) s_reader_start (ee_wS (ee_text tx n).2.2) := pss.mv rfl (eb_R_sRn (by decide)) rfl
      refine C_become (d := 1297) s_now s_reader_start _ (by unfold eb_isS; decide) (by unfold eb_isS; decide) (by decide) (ko_s_now_5 ko1) pn ko1 ?_
      intro h' ps nz sm
      have ko2 := nz.ko ko1
      have tot : eb_same (fun c => c ≠ s_EB ∧ c ≠ s_now ∧ c ≠ s_now + 524807 ∧ c ≠ s_past) Hs (eb_sI h' s_past 2 0) := (eb_same.trans (eb_same.rfl.sR (fun z => z.1 rfl)) (sm.weak (fun c z => ⟨z.2.1, z.2.2.1⟩))).sI (fun z => z.2.2.2 rfl)
      have eve : eb_R (eb_sI h' s_past 2 0) s_EB 2 = some v := by rw [eb_R_sI, nz.2.2.2.2, eb_R_sR, if_pos rfl]
      have vq : v ≠ s_EB ∧ v ≠ s_now ∧ v ≠ s_now + 524807 ∧ v ≠ s_past := by
        obtain ⟨_, q⟩ := hv.eq
        refine ⟨fun e => ?_, fun e => ?_, fun e => ?_, fun e => ?_⟩
        · rw [e] at q; exact absurd q (by decide)
        · rw [e] at q; exact absurd q (by decide)
        · rw [e] at q; exact absurd q (by decide)
        · rw [e] at q; exact absurd q (by decide)
      have lnf : eb_I (eb_sI h' s_past 2 0) v 3 = (ee_text tx n).2.2.1 0 := by rw [(tot v vq).1]; exact lns
      have pX : PX ((w.fed0 (0, -1)).setAt (ee_wV (ee_text tx n).2.2 s) (ee_wS (ee_text tx n).2.2)) (eb_sI h' s_past 2 0) := by
        refine pX1.setAt _ _ v tot eve (pvs.mv (tot.weak (fun c y => ?_))) (ps.mv (eb_I_sIn (by decide)) rfl (eb_I_sIn (by decide))) eb_I_sI' ?_
        · unfold eb_isV at y
          refine ⟨fun e => ?_, fun e => ?_, fun e => ?_, fun e => ?_⟩
          · rw [e] at y; unfold eb_ix s_EB at y; omega
          · rw [e] at y; unfold eb_ix s_now at y; omega
          · rw [e] at y; unfold eb_ix s_now at y; omega
          · rw [e] at y; unfold eb_ix s_past at y; omega
        · rw [eb_I_sI, if_neg (by decide), (sm s_past (by decide)).1]
          rfl
      have pM : PM w (eb_sI h' s_past 2 0) := by
        refine pM1.mv (tot.weak (fun c y => ?_))
        unfold eb_isM at y
        refine ⟨fun e => ?_, fun e => ?_, fun e => ?_, fun e => ?_⟩
        · rw [e] at y; unfold eb_ix s_EB at y; omega
        · rw [e] at y; unfold eb_ix s_now at y; omega
        · rw [e] at y; unfold eb_ix s_now at y; omega
        · rw [e] at y; unfold eb_ix s_past at y; omega
      have n4 : eb_n (eb_sI h' s_past 2 0) = eb_n Hs := nz.1
      have z4 : eb_z (eb_sI h' s_past 2 0) = eb_z Hs := nz.2.1
      have L4 : eb_XL (eb_sI h' s_past 2 0) = eb_XL h := nz.2.2.1.trans L3
      have X4 : eb_X (eb_sI h' s_past 2 0) = eb_X h := nz.2.2.2.1.trans X3
      have k4 : eb_KO (eb_sI h' s_past 2 0) := ko2
      refine ⟨rfl, ko2, T_X4_forget ko2 ⟨rfl, k4, v, eve, hv.1, ?_⟩⟩
      rw [lnf]
      clear tot sm nz ps ko2 lnf eve pn ko1 pvs pss lns
      generalize eb_sI h' s_past 2 0 = H2 at pX pM n4 z4 L4 X4 k4 ⊢
      refine ⟨_, rfl, k4, L4, X4, ?_⟩
      refine M_text (d := 1231) (fed := w.fed) ht hnf f9 pM.fed (fun j hj => (pM.text j (by omega)).trans (et0 j hj)) k4 (fun h5 F5 m5 m0 k5 mq k24' => ?_)
      have k24' := k24' en
      rcases mq with ⟨y', ey', w'⟩ | ⟨en', mr⟩
      · rw [en] at ey'
        cases ey'
      · obtain ⟨mr1, mr2, mr3, mr4, mr5⟩ := mr
        have n5 : eb_n h5 = eb_n H2 := F5.1.1.1
        have z5 : eb_z h5 = eb_z H2 := F5.1.1.2.1
        refine M_exo mr2 k24' k5 (fun h6 F6 o6 m13 m14 a6 r6 => ⟨?_, ?_⟩)
        · rw [mr3.1 0 (by omega) (by omega)]
        have n6 : eb_n h6 = eb_n h5 := F6.1.1
        have z6 : eb_z h6 = eb_z h5 := F6.1.2.1
        refine ⟨F6.ko k5, ((F6.1.2.2.1.trans F5.1.1.2.2.1).trans L4).trans eL, ((F6.1.2.2.2.1.trans F5.1.1.2.2.2.1).trans X4).trans eX, _, pX.mvM ?_, ?_, (b3.fed0 (0, -1)).setAt _ _ (ee_wV_ok dw sd) (ee_wS_ok dw sd), ?_, ?_, ?_⟩
        · have im1 : eb_isM s_MO := by unfold eb_isM; decide
          have im2 : eb_isM s_m_fresh := by unfold eb_isM; decide
          have im3 : eb_isM s_m_all := by unfold eb_isM; decide
          exact (F5.1.same (Z := fun c => ¬ eb_isM c) (fun c z u => z (u.elim (fun e => by rw [e]; exact im1) (fun e => by rw [e]; exact im2)))).trans (F6.same (fun c z u => z (u.elim (fun e => by rw [e]; exact im1) (fun e => by rw [e]; exact im3))))
        · have ne : ∀ c, c ≠ s_MO → c ≠ s_m_fresh → c ≠ s_m_all → eb_I h6 c = eb_I H2 c := fun c z1 z2 z3 => by
            rw [F6.2.2 c (fun u => u.elim z1 z3)]
            exact F5.1.2.2 c (fun u => u.elim z1 z2)
          obtain ⟨x52, y52, q52⟩ := sd.1 52 (by decide) (by decide)
          have y52 : x52 < 1 := y52
          refine pM.newV b3 ?_ m13 m14 (mr3.pmv dw (by omega) a6) (mr3.pms a6) ?_ (fun q hq => ?_) (ne _ (by decide) (by decide) (by decide)) (ne _ (by decide) (by decide) (by decide)) (ne _ (by decide) (by decide) (by decide)) (F6.2.1.trans F5.1.2.1)
          · rw [o6 5 (by decide) (by decide)]; exact m5
          · rw [a6 52 (by omega), mr3.1 52 (by omega) (by omega), q52, show x52 = 0 by omega]
            rfl
          · rw [r6 q hq, F5.1.2.2 s_m_all (by decide)]
        · show 89 ≤ eb_n h6
          omega
        · show eb_n h6 + 4 * 0 ≤ _
          omega
        · show eb_z h6 + 42 * 0 ≤ _
          omega
  · have M : eb_Ct 1299 188 [.ref s_MO, .int v1] h (fun r2 h2 => r2 = some (.int (-3)) ∧ eb_Inv L xs (k + 1) h2) :=
      T_X11_valley (d := 1298) v1 ko ⟨fun z => absurd (m1.mp z) rg, fun _ => ⟨rfl, inv2⟩⟩
    refine T_X10_valley (d := 1298) v1 ko ⟨fun _ => ⟨_, rfl, ko, rfl, rfl, M⟩, fun z => ⟨fun z2 => ?_, fun _ => ⟨_, rfl, ko, rfl, rfl, M⟩⟩⟩
    exfalso
    have y1 := c1.mp z2
    have y0 : ¬ v1.toInt < 0 := fun u => z (c0.mpr u)
    omega
end EBVALLEY2

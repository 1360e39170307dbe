section EBXLINE
variable {L : Nat} {xs : Nat → Int32}
/-! ===== the class's lines ===== -/
theorem C_drift {d : Nat} {h g0 : eb_H} {Q : Option Value → eb_H → Prop} {tx : Nat → Nat} {n p v a b c s : Nat} {D : ee_D} (ht : ∀ j, j < n → tx j < 256) (hn : n ≤ 900) (x : ee_XR g0 h v tx n p D) (dw : ee_DW D a b c s) (nb : ee_k tx n p ≠ 25) (q : ∀ h', ee_vf v h h' → ee_XQ g0 h' v tx n (ee_ldrift tx n p a b D) → Q none h') : eb_Ct (d + 8) 55 [.ref s_reader] h Q := by
  unfold ee_ldrift ee_nb at q
  have hv := x.1.vk
  refine T_X5_readDrift (d := d + 7) x.ko (C_nxR (d := d + 1) ht hn x nb (fun h1 F1 x1 => ⟨rfl, x1.ko, v, x1.1.2.2.2.1, hv.1, ?_⟩))
  have i3 : eb_I h1 s_reader_start 3 = D.1 50 := x1.2.2.1 50 (by decide) (by decide)
  rw [i3]
  refine C_rcR (d := d) ht hn x1 dw (fun ok h7 F7 x7 => ⟨_, rfl, x7.ko, ?_⟩) (fun no h7 F7 x7 => ⟨_, rfl, x7.ko, ?_⟩)
  · rw [if_pos ok] at q
    exact q _ ((F1.vf.trans F7.vf).sI (t := 3) hv (by decide)) (Or.inr ⟨rfl, x7.set (j := 50) (by decide) (by decide)⟩)
  · rw [if_neg no] at q
    exact q _ ((F1.vf.trans F7.vf).sI (t := 3) hv (by decide)) (Or.inl ⟨_, rfl, x7.set (t := 3) (by decide)⟩)
theorem C_wind {d : Nat} {h g0 : eb_H} {Q : Option Value → eb_H → Prop} {tx : Nat → Nat} {n p v : Nat} {D : ee_D} (ht : ∀ j, j < n → tx j < 256) (hn : n ≤ 900) (x : ee_XR g0 h v tx n p D) (nb : ee_k tx n p ≠ 25) (q : ∀ h', ee_vf v h h' → ee_XQ g0 h' v tx n (ee_lwind tx n p D) → Q none h') : eb_Ct (d + 8) 57 [.ref s_reader] h Q := by
  unfold ee_lwind ee_nb at q
  have hv := x.1.vk
  refine T_X5_readWind (d := d + 7) x.ko (C_nxR (d := d + 1) ht hn x nb (fun h1 F1 x1 => ⟨rfl, x1.ko, ?_⟩))
  refine C_nmR (d := d) ht hn x1 0 9 (by decide) (by decide) (fun ok h7 F7 x7 => ⟨_, rfl, x7.ko, ?_⟩) (fun no h7 F7 x7 => ⟨_, rfl, x7.ko, ?_⟩)
  · rw [if_pos ok] at q
    exact q _ ((F1.vf.trans F7.vf).sI (t := 3) hv (by decide)) (Or.inr ⟨rfl, x7.set (j := 51) (by decide) (by decide)⟩)
  · rw [if_neg no] at q
    exact q _ ((F1.vf.trans F7.vf).sI (t := 3) hv (by decide)) (Or.inl ⟨_, rfl, x7.set (t := 3) (by decide)⟩)
theorem C_put16 {d : Nat} {h : eb_H} {Q : Option Value → eb_H → Prop} {v : Nat} (ko : eb_KO h) (i : Nat) (hi : i < 16) (y : Int32) (q : Q none (eb_sI h (ee_ce v 4) i y)) : eb_Ct d 63 [.ref s_reader_start, .int (nI i), .int y] h Q := by
  have el : eb_ln s_reader_start_things = 16 := by decide
  have ec := eb_cln (n := i) (by omega)
  refine T_X6_putThing (d := d) _ _ _ (by decide) ko ⟨fun z => absurd z (nI_pos (by omega)), fun _ => ⟨s_reader_start_things, ko_s_reader_start_5 ko, by decide, ?_⟩⟩
  rw [el]
  refine ⟨fun z => absurd z (nI_ge (b := 16) hi (by decide)), fun _ => ⟨vp_in_nI (n := i) (N := 16) hi (by decide), ?_⟩⟩
  rw [ec]
  exact q
theorem C_thing {d : Nat} {h g0 : eb_H} {Q : Option Value → eb_H → Prop} {tx : Nat → Nat} {n p v a b c s : Nat} {D : ee_D} (ht : ∀ j, j < n → tx j < 256) (hn : n ≤ 900) (x : ee_XR g0 h v tx n p D) (dw : ee_DW D a b c s) (nb : ee_k tx n p ≠ 25) (q : ∀ h', ee_vf v h h' → ee_XQ g0 h' v tx n (ee_lthing tx n p a b D) → Q none h') : eb_Ct (d + 8) 54 [.ref s_reader] h Q := by
  unfold ee_lthing ee_nb at q
  have hv := x.1.vk
  obtain ⟨r1, r2⟩ := ee_rc dw.1.2 dw.2.1.2
  refine T_X5_readThing (d := d + 7) x.ko (C_nxR (d := d + 1) ht hn x nb (fun h1 F1 x1 => ⟨rfl, x1.ko, v, x1.1.2.2.2.1, hv.1, ?_⟩))
  refine C_rcR (d := d) ht hn x1 dw (fun ok h7 F7 x7 => ⟨_, rfl, x7.ko, ?_⟩) (fun no h7 F7 x7 => ⟨_, rfl, x7.ko, ?_⟩)
  · rw [if_pos ok] at q
    have vb := ok.2.2
    have vb : ee_v tx n (ee_e tx n p) < 16 := by omega
    have ea := ee_at_th _ vb
    dsimp only at q
    refine C_nmR (d := d) ht hn x7 0 6 (by decide) (by decide) (fun ok2 h10 F10 x10 => ⟨_, rfl, x10.ko, ?_⟩) (fun no2 h10 F10 x10 => ⟨_, rfl, x10.ko, ?_⟩)
    · rw [if_pos ok2] at q
      refine C_put16 (v := v) x10.ko _ vb _ ?_
      have X := x10.set (j := 34 + ee_v tx n (ee_e tx n p)) (x := nI (ee_v tx n (ee_e tx n (ee_e tx n p)))) (by omega) (by omega)
      rw [ea] at X
      exact ⟨rfl, X.ko, q _ (((F1.vf.trans F7.vf).trans F10.vf).sI (t := 4) hv (by decide)) (Or.inr ⟨rfl, X⟩)⟩
    · rw [if_neg no2] at q
      refine C_put16 (v := v) x10.ko _ vb _ ?_
      have X := x10.set (t := 4) (k := ee_v tx n (ee_e tx n p)) (x := nI 0) (by decide)
      exact ⟨rfl, X.ko, q _ (((F1.vf.trans F7.vf).trans F10.vf).sI (t := 4) hv (by decide)) (Or.inl ⟨_, rfl, X⟩)⟩
  · rw [if_neg no] at q
    refine C_nm0 (d := d + 6) x7 _ _ (fun h10 F10 x10 => ⟨_, rfl, x10.ko, ?_⟩)
    refine C_put16 (v := v) x10.ko 0 (by decide) _ ?_
    have X := x10.set (t := 4) (k := 0) (x := 0) (by decide)
    exact ⟨rfl, X.ko, q _ (((F1.vf.trans F7.vf).trans F10.vf).sI (t := 4) hv (by decide)) (Or.inl ⟨_, rfl, X⟩)⟩
theorem C_addH {d : Nat} {h : eb_H} {Q : Option Value → eb_H → Prop} {v s : Nat} (ko : eb_KO h) (hv : ee_vk v) (r5 : eb_R h v 5 = some (v + 524420)) (i4 : eb_I h v 4 = nI s) (hs : s ≤ 4) (y : Int32) (q4 : s = 4 → Q none h) (q : s < 4 → Q none (eb_sI (eb_sI h (ee_ce v 1) s y) (ee_ce v 0) 4 (nI (s + 1)))) : eb_Ct d 85 [.ref v, .int y] h Q := by
  obtain ⟨a1, a2⟩ := hv.eq
  have el : eb_ln (v + 524420) = 4 := by unfold eb_ln; omega
  have ek : eb_kd (v + 524420) = 13 := by unfold eb_kd; omega
  have ec := eb_cln (n := s) (by omega)
  have ne : v ≠ v + 524420 := by omega
  refine T_X9_addHouse (d := d) _ _ hv.1 ko ?_
  rw [i4]
  refine ⟨fun z => absurd z (nI_pos (by omega)), fun _ => ⟨_, r5, ek, ?_⟩⟩
  rw [el]
  refine ⟨fun z => ?_, fun z => ?_⟩
  · have z : s < 4 := (nI_ltI (b := 4) (by omega) (by decide)).mp z
    refine ⟨vp_in_nI (n := s) (N := 4) z (by decide), ?_⟩
    rw [eb_I_sIn ne, i4, ec, show nI s + 1 = nI (s + 1) from nI_add s 1]
    exact q z
  · refine q4 ?_
    have z : ¬ s < 4 := fun u => z ((nI_ltI (b := 4) (by omega) (by decide)).mpr u)
    omega
theorem C_house {d : Nat} {h g0 : eb_H} {Q : Option Value → eb_H → Prop} {tx : Nat → Nat} {n p v a b c s : Nat} {D : ee_D} (ht : ∀ j, j < n → tx j < 256) (hn : n ≤ 900) (x : ee_XR g0 h v tx n p D) (dw : ee_DW D a b c s) (nb : ee_k tx n p ≠ 25) (q : ∀ h', ee_vf v h h' → ee_XQ g0 h' v tx n (ee_lhouse tx n p a b s D) → Q none h') : eb_Ct (d + 8) 56 [.ref s_reader] h Q := by
  unfold ee_lhouse ee_nb at q
  have hv := x.1.vk
  have i4 : eb_I h v 4 = D.1 4 := x.2.2.1 4 (by decide) (by decide)
  rw [dw.2.2.2.1] at i4
  have hs := dw.2.2.2.2
  have vt : v ≠ s_tape := (ee_ce_ne (t := 0) hv (by decide)).1
  refine T_X5_readHouse (d := d + 7) x.ko ⟨v, x.1.2.2.2.1, hv.1, ?_⟩
  rw [i4]
  refine ⟨fun z => ?_, fun z => ?_⟩
  · have z : s < 4 := (nI_ltI (b := 4) (by omega) (by decide)).mp z
    rw [if_neg (by omega)] at q
    refine C_nxR (d := d + 1) ht hn x nb (fun h1 F1 x1 => ⟨rfl, x1.ko, v, x1.1.2.2.2.1, hv.1, ?_⟩)
    have i41 : eb_I h1 v 4 = nI s := by rw [F1.1.2.2 v vt]; exact i4
    refine C_rcR (d := d) ht hn x1 dw (fun ok h7 F7 x7 => ⟨_, rfl, x7.ko, ?_⟩) (fun no h7 F7 x7 => ⟨_, rfl, x7.ko, ?_⟩)
    · rw [if_pos ok] at q
      have i47 : eb_I h7 v 4 = nI s := by rw [F7.1.2.2 v vt]; exact i41
      refine C_addH x7.ko hv x7.1.2.2.2.2.1 i47 hs _ (fun u => by omega) (fun _ => ?_)
      have X := x7.set (j := 27 + s) (x := nI (ee_v tx n (ee_e tx n p))) (by omega) (by omega)
      rw [ee_at_hs s z] at X
      have Y := X.set (j := 4) (x := nI (s + 1)) (by decide) (by decide)
      exact ⟨rfl, Y.ko, q _ (((F1.vf.trans F7.vf).sI (t := 1) hv (by decide)).sI (t := 0) hv (by decide)) (Or.inr ⟨rfl, Y⟩)⟩
    · rw [if_neg no] at q
      have i47 : eb_I h7 v 4 = nI s := by rw [F7.1.2.2 v vt]; exact i41
      refine C_addH x7.ko hv x7.1.2.2.2.2.1 i47 hs _ (fun u => by omega) (fun _ => ?_)
      have Y := (x7.set (t := 1) (k := s) (x := nI 0) (by decide)).set (t := 0) (k := 4) (x := nI (s + 1)) (by decide)
      exact ⟨rfl, Y.ko, q _ (((F1.vf.trans F7.vf).sI (t := 1) hv (by decide)).sI (t := 0) hv (by decide)) (Or.inl ⟨_, rfl, Y⟩)⟩
  · have z : ¬ s < 4 := fun u => z ((nI_ltI (b := 4) (by omega) (by decide)).mpr u)
    have s4 : s = 4 := by omega
    rw [if_pos s4] at q
    refine C_flR hn x 4 (by decide) (fun h17 F17 x17 => ⟨rfl, x17.ko, ?_⟩)
    refine C_nx0 (d := d + 1) ht hn x17 (fun h20 F20 x20 => ⟨rfl, x20.ko, v, x20.1.2.2.2.1, hv.1, ?_⟩)
    refine C_nm0 (d := d + 6) x20 _ _ (fun h26 F26 x26 => ⟨_, rfl, x26.ko, ?_⟩)
    have i46 : eb_I h26 v 4 = nI s := by rw [F26.1.2.2 v vt, F20.1.2.2 v vt, F17.1.2.2 v vt]; exact i4
    refine C_addH x26.ko hv x26.1.2.2.2.2.1 i46 hs _ (fun _ => ?_) (fun u => by omega)
    refine ⟨rfl, x26.ko, q _ ((F17.vf.trans F20.vf).trans F26.vf) (Or.inl ⟨_, rfl, ?_⟩)⟩
    have e : ee_fa tx n p 4 = (4, nI (ee_b tx n p)) := by unfold ee_fa; rw [if_neg nb]
    rw [← e]
    exact x26
/-! a row -/
theorem C_setH {d : Nat} {h : eb_H} {Q : Option Value → eb_H → Prop} {v : Nat} (ko : eb_KO h) (hv : ee_vk v) (r6 : eb_R h v 6 = some (v + 1049092)) (i : Nat) (hi : i < 16) (y : Int32) (q : Q none (eb_sI h (ee_ce v 2) i y)) : eb_Ct d 82 [.ref v, .int (nI i), .int y] h Q := by
  obtain ⟨a1, a2⟩ := hv.eq
  have el : eb_ln (v + 1049092) = 16 := by unfold eb_ln; omega
  have ek : eb_kd (v + 1049092) = 13 := by unfold eb_kd; omega
  have ec := eb_cln (n := i) (by omega)
  refine T_X9_setHeight (d := d) _ _ _ hv.1 ko ⟨fun z => absurd z (nI_pos (by omega)), fun _ => ⟨_, r6, ek, ?_⟩⟩
  rw [el]
  refine ⟨fun z => absurd z (nI_ge (b := 16) hi (by decide)), fun _ => ⟨vp_in_nI (n := i) (N := 16) hi (by decide), ?_⟩⟩
  rw [ec]
  exact q
theorem C_row0 {d : Nat} {h0 g0 : eb_H} {Q : Option Value → eb_H → Prop} {tx : Nat → Nat} {n v b o : Nat} {y : Int32 × Int32} (hb : o + b ≤ 16) : ∀ (k i : Nat) (h : eb_H), i + k = b → ee_XF g0 h v tx n y → eb_I h v 1 = nI b → (∀ h', ee_vf v h h' → ee_XF g0 h' v tx n y → Q none h') → eb_Sn (d + 8) m_X5_readRow h0 32 [(0, .ref s_reader), (1, .int (nI o)), (2, .int (nI i))] [] h Q
  | 0, i, h, hi, x, i1, q => by
    refine b_X5_readRow_32 (d := d + 7) _ _ x.ko ⟨v, x.1.2.2.2.1, x.1.vk.1, ?_⟩
    rw [i1, nI_leI (by omega) (by omega)]
    exact ⟨fun _ => q h ee_vf.rfl x, fun z => absurd (show b ≤ i by omega) z⟩
  | k + 1, i, h, hi, x, i1, q => by
    have hv := x.1.vk
    have vt : v ≠ s_tape := (ee_ce_ne (t := 0) hv (by decide)).1
    refine b_X5_readRow_32 (d := d + 7) _ _ x.ko ⟨v, x.1.2.2.2.1, hv.1, ?_⟩
    rw [i1, nI_leI (by omega) (by omega)]
    refine ⟨fun z => absurd z (by omega), fun _ => ?_⟩
    refine C_nm0 (d := d + 6) x _ _ (fun h5 F5 x5 => ⟨_, rfl, x5.ko, ?_⟩)
    rw [nI_add]
    refine C_setH x5.ko hv x5.1.2.2.2.2.2 (o + i) (by omega) _ ?_
    have X := x5.set (t := 2) (k := o + i) (x := 0) (by decide)
    refine ⟨rfl, X.ko, ?_⟩
    have e : nI i + 1 = nI (i + 1) := nI_add i 1
    rw [e]
    refine C_row0 hb k (i + 1) _ (by omega) X ?_ (fun h' F' x' => q h' ((F5.vf.sI (t := 2) hv (by decide)).trans F') x')
    rw [eb_I_sIn (show v ≠ ee_ce v 2 from fun u => absurd (ee_ce_inj (t := 0) (u := 2) hv (by decide) (by decide) u) (by decide)), F5.1.2.2 v vt]
    exact i1
theorem C_rowl {d : Nat} {h0 g0 : eb_H} {Q : Option Value → eb_H → Prop} {tx : Nat → Nat} {n v a b c s o : Nat} (ht : ∀ j, j < n → tx j < 256) (hn : n ≤ 900) (hb : o + b ≤ 16) : ∀ (k i p : Nat) (D : ee_D) (h : eb_H), i + k = b → ee_XR g0 h v tx n p D → ee_DW D a b c s → (∀ h', ee_vf v h h' → ee_XQ g0 h' v tx n (ee_rowl tx n o k i p D) → Q none h') → eb_Sn (d + 8) m_X5_readRow h0 32 [(0, .ref s_reader), (1, .int (nI o)), (2, .int (nI i))] [] h Q
  | 0, i, p, D, h, hi, x, dw, q => by
    have i1 : eb_I h v 1 = D.1 2 := x.2.2.1 2 (by decide) (by decide)
    rw [dw.2.1.1] at i1
    refine b_X5_readRow_32 (d := d + 7) _ _ x.ko ⟨v, x.1.2.2.2.1, x.1.vk.1, ?_⟩
    rw [i1, nI_leI (by omega) (by omega)]
    exact ⟨fun _ => q h ee_vf.rfl (Or.inr ⟨rfl, x⟩), fun z => absurd (show b ≤ i by omega) z⟩
  | k + 1, i, p, D, h, hi, x, dw, q => by
    have hv := x.1.vk
    have vt : v ≠ s_tape := (ee_ce_ne (t := 0) hv (by decide)).1
    have i1 : eb_I h v 1 = D.1 2 := x.2.2.1 2 (by decide) (by decide)
    rw [dw.2.1.1] at i1
    refine b_X5_readRow_32 (d := d + 7) _ _ x.ko ⟨v, x.1.2.2.2.1, hv.1, ?_⟩
    rw [i1, nI_leI (by omega) (by omega)]
    refine ⟨fun z => absurd z (by omega), fun _ => ?_⟩
    have e : nI i + 1 = nI (i + 1) := nI_add i 1
    rw [e, nI_add]
    unfold ee_rowl ee_nb at q
    refine C_nmR (d := d) ht hn x 0 9 (by decide) (by decide) (fun ok h5 F5 x5 => ⟨_, rfl, x5.ko, ?_⟩) (fun no h5 F5 x5 => ⟨_, rfl, x5.ko, ?_⟩)
    · rw [if_pos ok] at q
      refine C_setH x5.ko hv x5.1.2.2.2.2.2 (o + i) (by omega) _ ?_
      have X := x5.set (j := 11 + (o + i)) (x := nI (ee_v tx n p)) (by omega) (by omega)
      rw [ee_at_ht (o + i) (by omega)] at X
      refine ⟨rfl, X.ko, ?_⟩
      refine C_rowl (a := a) (c := c) (s := s) ht hn hb k (i + 1) _ _ _ (by omega) X (dw.set (Or.inl (by omega))) (fun h' F' x' => q h' ((F5.vf.sI (t := 2) hv (by decide)).trans F') ?_)
      rw [Nat.add_assoc]
      exact x'
    · rw [if_neg no] at q
      refine C_setH x5.ko hv x5.1.2.2.2.2.2 (o + i) (by omega) _ ?_
      have X := x5.set (t := 2) (k := o + i) (x := nI 0) (by decide)
      refine ⟨rfl, X.ko, ?_⟩
      refine C_row0 hb k (i + 1) _ (by omega) X ?_ (fun h' F' x' => q h' ((F5.vf.sI (t := 2) hv (by decide)).trans F') (Or.inl ⟨_, rfl, x'⟩))
      rw [eb_I_sIn (show v ≠ ee_ce v 2 from fun u => absurd (ee_ce_inj (t := 0) (u := 2) hv (by decide) (by decide) u) (by decide)), F5.1.2.2 v vt]
      exact i1
theorem C_row {d : Nat} {h g0 : eb_H} {Q : Option Value → eb_H → Prop} {tx : Nat → Nat} {n p v a b c s : Nat} {D : ee_D} (ht : ∀ j, j < n → tx j < 256) (hn : n ≤ 900) (x : ee_XR g0 h v tx n p D) (dw : ee_DW D a b c s) (nb : ee_k tx n p ≠ 25) (q : ∀ h', ee_vf v h h' → ee_XQ g0 h' v tx n (ee_lrow tx n p a b D) → Q none h') : eb_Ct (d + 8) 53 [.ref s_reader] h Q := by
  unfold ee_lrow ee_nb at q
  have hv := x.1.vk
  have vt : v ≠ s_tape := (ee_ce_ne (t := 0) hv (by decide)).1
  obtain ⟨w1, w2, w3, w4⟩ := dw
  have dw : ee_DW D a b c s := ⟨w1, w2, w3, w4⟩
  refine T_X5_readRow (d := d + 7) x.ko (C_nxR (d := d + 1) ht hn x nb (fun h1 F1 x1 => ⟨rfl, x1.ko, v, x1.1.2.2.2.1, hv.1, ?_⟩))
  have i0 : eb_I h1 v 0 = D.1 1 := x1.2.2.1 1 (by decide) (by decide)
  have i1 : eb_I h1 v 1 = D.1 2 := x1.2.2.1 2 (by decide) (by decide)
  have ea : nI a - 1 = nI (a - 1) := by
    have := nI_pred (a - 1)
    rw [Nat.sub_add_cancel w1.2.1] at this
    exact this
  rw [i0, w1.1, ea, i1, w2.1]
  refine C_nmR (d := d) ht hn x1 0 (a - 1) (by decide) (by omega) (fun ok h7 F7 x7 => ⟨_, rfl, x7.ko, ?_⟩) (fun no h7 F7 x7 => ⟨_, rfl, x7.ko, ?_⟩)
  · rw [if_pos ok] at q
    have vb := ok.2.2
    rw [pk_mul]
    generalize ee_v tx n (ee_e tx n p) = r at q vb ⊢
    have hb : b * r + b ≤ 16 := by
      have : b * r ≤ b * 3 := Nat.mul_le_mul_left b (by omega)
      omega
    exact C_rowl (d := d) (h0 := h) (Q := Q) (a := a) (c := c) (s := s) ht hn hb b 0 _ D h7 (by omega) x7 dw (fun h' F' x' => q h' ((F1.vf.trans F7.vf).trans F') x')
  · rw [if_neg no] at q
    rw [pk_mul]
    refine C_row0 (d := d) (h0 := h) (Q := Q) (o := b * 0) (b := b) (by omega) b 0 h7 (by omega) x7 ?_ (fun h' F' x' => q h' ((F1.vf.trans F7.vf).trans F') (Or.inl ⟨_, rfl, x'⟩))
    rw [F7.1.2.2 v vt, i1, w2.1]
end EBXLINE

section EBIMAGE2
variable {L : Nat} {xs : Nat → Int32}
theorem eb_1164 {x : Int32} (hx : 0 ≤ x.toInt ∧ x.toInt < 2) (j : Nat) : (1164 : Int32) * (x + 1) + nI j = nI (1164 * (x.toInt.toNat + 1) + j) := by
  have e1 := eb_ofn hx.1
  generalize x.toInt.toNat = a at *
  rw [e1]
  show nI 1164 * (nI a + nI 1) + nI j = _
  rw [nI_add, show nI 1164 * nI (a + 1) = nI (1164 * (a + 1)) from (Int32.ofNat_mul 1164 (a + 1)).symm, nI_add]
theorem M_img_l {d : Nat} {h0 : eb_H} {Q : Option Value → eb_H → Prop} (v1 : Int32) (rg : 0 ≤ v1.toInt ∧ v1.toInt < 2) : ∀ (m j : Nat) (g : eb_H), j + m = 1164 → eb_KO g → (∀ q, q < j → eb_I g s_m_all (1164 * (v1.toInt.toNat + 1) + q) = eb_I g s_m_all q) → (∀ g', eb_same (fun c => c ≠ s_m_all) g g' → eb_nz g g' → eb_J g' = eb_J g → (∀ q, (q < 1164 * (v1.toInt.toNat + 1) ∨ 1164 * (v1.toInt.toNat + 2) ≤ q) → eb_I g' s_m_all q = eb_I g s_m_all q) → (∀ q, q < 1164 → eb_I g' s_m_all (1164 * (v1.toInt.toNat + 1) + q) = eb_I g s_m_all q) → Q (some (.int 0)) (eb_sI g' s_m_hasImage v1.toNatClampNeg 1)) → eb_Sn (d + 1) m_X11_image h0 20 [(0, .ref s_MO), (1, .int v1), (2, .int (nI j))] [] g Q := by
  intro m
  have vi : vp_in v1 2 := vp_in_iff.mpr (by omega)
  have t1 : (nI 1164).toInt = 1164 := by decide
  induction m with
  | zero =>
    intro j g hj ko hf w
    refine b_X11_image_20 v1 _ ko ⟨fun _ => ⟨vi, w g eb_same.rfl eb_nz.rfl rfl (fun _ _ => rfl) (fun q hq => hf q (by omega))⟩, fun c => ?_⟩
    exfalso
    apply c
    show nI 1164 ≤ nI j
    rw [nI_leI (by omega) (by omega)]
    omega
  | succ m ih =>
    intro j g hj ko hf w
    have idx := eb_1164 rg j
    have tx : ((1164 : Int32) * (v1 + 1) + nI j).toNatClampNeg = 1164 * (v1.toInt.toNat + 1) + j := by
      rw [idx, eb_tnc, nI_toInt (by omega)]; omega
    have ej : (nI j).toNatClampNeg = j := by
      rw [eb_tnc, nI_toInt (by omega)]; omega
    refine b_X11_image_20 v1 _ ko ⟨fun c => ?_, fun _ => ⟨vp_in_nI (by omega) (by omega), ?_, ?_⟩⟩
    · exfalso
      have c : nI 1164 ≤ nI j := c
      rw [nI_leI (by omega) (by omega)] at c
      omega
    · rw [idx]; exact vp_in_nI (by omega) (by omega)
    · rw [show nI j + 1 = nI (j + 1) from nI_add j 1, tx, ej]
      refine ih (j + 1) _ (by omega) ko ?_ ?_
      · intro q hq
        rw [eb_I_sI, eb_I_sI, if_neg (show ¬ q = 1164 * (v1.toInt.toNat + 1) + j by omega)]
        by_cases e : q = j
        · rw [if_pos (by omega), e]
        · rw [if_neg (by omega)]; exact hf q (by omega)
      · intro g' s1 s2 s3 s4 s5
        refine w g' ((eb_same.rfl.sI (fun z => z rfl)).trans s1) (eb_nz.trans ⟨rfl, rfl, rfl, rfl, rfl⟩ s2) s3 (fun q hq => ?_) (fun q hq => ?_)
        · rw [s4 q hq, eb_I_sI, if_neg (by omega)]
        · rw [s5 q hq, eb_I_sI, if_neg (by omega)]
theorem eb_R_sR {h : eb_H} {i k j : Nat} {v : Option Nat} : eb_R (eb_sR h i k v) i j = if j = k then v else eb_R h i j := by
  simp [eb_R, eb_sR, eb_rR, va_up]
theorem eb_R_sRn {h : eb_H} {i c k : Nat} {v : Option Nat} (e : c ≠ i) : eb_R (eb_sR h i k v) c = eb_R h c := by
  simp [eb_R, eb_sR, eb_rR, va_up, e]
theorem eb_ims {h : eb_H} (ko : eb_KO h) {i : Nat} (hi : i < 2) : eb_R h s_imageStates i = some (s_imageStates_0 + 1048576 * i) ∧ eb_isS (s_imageStates_0 + 1048576 * i) ∧ eb_R h (s_imageStates_0 + 1048576 * i) 5 = some (s_imageStates_0 + 1048576 * i + 524807) := by
  rcases (by omega : i = 0 ∨ i = 1) with rfl | rfl
  · exact ⟨ko_s_imageStates_0 ko, by unfold eb_isS; decide, ko_s_imageStates_0_5 ko⟩
  · exact ⟨ko_s_imageStates_1 ko, by unfold eb_isS; decide, ko_s_imageStates_1_5 ko⟩
theorem eb_c2 : (2 : Int32).toInt = 2 := by decide
theorem eb_d1 : (1 : Int64).toInt = 1 := by decide
/-- 41: image -/
theorem c_image (k : Nat) (h : eb_H) (v1 : Int32) (inv : eb_Inv L xs k h) : eb_Pr 136 280 [.int v1] (eb_Inv L xs (k + 1)) h := by
  have inv2 := inv.z0 (v := 0)
  obtain ⟨ko, eL, eX, w, b1, b2, b3, b4, b5, b6⟩ := inv
  have m1 : ((¬ (v1.toInt64 < 0)) ∧ (¬ (1 < v1.toInt64))) ↔ (0 ≤ v1.toInt ∧ v1.toInt < 2) := by rw [eb_l64a, eb_l64b, eb_z64, eb_d1]; omega
  by_cases rg : 0 ≤ v1.toInt ∧ v1.toInt < 2
  · have hi : v1.toInt.toNat < 2 := by omega
    have vi : vp_in v1 2 := vp_in_iff.mpr (by omega)
    obtain ⟨v, ev, pv⟩ := b1.va
    have ko1 : eb_KO (eb_sR h s_imageValleys v1.toNatClampNeg (some v)) := ko_sRi (by decide) ko
    obtain ⟨r1, r2, r3⟩ := eb_ims ko1 hi
    refine T_X10_image (d := 1298) v1 ko ⟨fun c => ?_, fun _ => ⟨fun _ => ⟨v, ev, pv.1.1, vi, vi, _, r1, r2.1, ?_⟩, fun c => ?_⟩⟩
    · exfalso; rw [eb_i32, eb_z32] at c; omega
    · have pn : PXS (eb_sR h s_imageValleys v1.toNatClampNeg (some v)) s_now w.now := b1.now.mv rfl (eb_R_sRn (by decide)) rfl
      refine C_become (d := 1297) _ s_now w.now r2 (by unfold eb_isS; decide) (by unfold s_now s_imageStates_0; omega) r3 pn ko1 ?_
      intro h' ps nz sm
      have ko2 := nz.ko ko1
      have tot : eb_same (fun c => c ≠ s_imageValleys ∧ c ≠ s_imageStates_0 + 1048576 * v1.toInt.toNat ∧ c ≠ s_imageStates_0 + 1048576 * v1.toInt.toNat + 524807) h h' := eb_same.trans (eb_same.rfl.sR (fun z => z.1 rfl)) (sm.weak (fun c z => ⟨z.2.1, z.2.2⟩))
      have pX : PX (w.setImg v1.toInt.toNat (w.va, w.now)) h' := by
        refine b1.setImg hi _ tot (fun j hj => ?_) ⟨⟨v, ?_, pv.mv (tot.weak (fun c y => ?_))⟩, ps⟩
        · rw [nz.2.2.2.2, eb_R_sR, if_neg (show ¬ j = v1.toNatClampNeg from hj)]
        · rw [nz.2.2.2.2, eb_R_sR, if_pos (show v1.toInt.toNat = v1.toNatClampNeg from rfl)]
        · unfold eb_isV at y
          refine ⟨fun e => ?_, fun e => ?_, fun e => ?_⟩
          · rw [e] at y; unfold eb_ix s_imageValleys at y; omega
          · rw [e] at y; unfold eb_ix s_imageStates_0 at y; omega
          · rw [e] at y; unfold eb_ix s_imageStates_0 at y; omega
      have pM : PM w (eb_sI h' s_MO 0 0) := by
        refine (b2.mv (tot.weak (fun c y => ?_))).z0
        unfold eb_isM at y
        refine ⟨fun e => ?_, fun e => ?_, fun e => ?_⟩
        · rw [e] at y; unfold eb_ix s_imageValleys at y; omega
        · rw [e] at y; unfold eb_ix s_imageStates_0 at y; omega
        · rw [e] at y; unfold eb_ix s_imageStates_0 at y; omega
      refine ⟨rfl, ko2, 0, rfl, ko2, nz.2.2.1, nz.2.2.2.1, T_X11_image (d := 1298) v1 ko2 ⟨fun _ => ?_, fun c => absurd (m1.mpr rg) c⟩⟩
      refine M_img_l v1 rg 1164 0 _ (by omega) ko2 (fun q hq => absurd hq (by omega)) ?_
      intro g' q1 q2 q3 q4 q5
      have ki := q1 s_m_hasImage (by decide)
      refine ⟨rfl, q2.ko ko2, (q2.2.2.1.trans nz.2.2.1).trans eL, (q2.2.2.2.1.trans nz.2.2.2.1).trans eX, w.setImg v1.toInt.toNat (w.va, w.now), ?_, ?_, b3.setImg _, ?_, ?_, ?_⟩
      · refine pX.mvM ?_
        have nm : ∀ c, eb_isM c → ¬ ¬ eb_isM c := fun _ z y => y z
        refine (eb_same.trans (eb_same.rfl.sI (nm s_MO (by unfold eb_isM eb_ix s_MO; omega))) (q1.weak (fun c z y => z ?_))).sI (nm s_m_hasImage (by unfold eb_isM eb_ix s_m_hasImage; omega))
        rw [y]
        unfold eb_isM eb_ix s_m_all
        omega
      · refine pM.setImg b3 hi (fun c y1 y2 => ?_) q3 (fun j y => ?_) ?_ (fun q hq => ?_) (fun q hq => ?_)
        · rw [eb_I_sIn y2, (q1 c y1).1]
        · rw [eb_I_sI, if_neg (show ¬ j = v1.toNatClampNeg from y), ki.1]
        · exact eb_I_sI'
        · rw [eb_I_sIn (by decide)]; exact q4 q hq
        · rw [eb_I_sIn (by decide)]; exact q5 q hq
      · show 89 ≤ eb_n g'
        rw [q2.1]
        show 89 ≤ eb_n h'
        rw [nz.1]; exact b4
      · show eb_n g' + 4 * w.fed ≤ _
        rw [q2.1]
        show eb_n h' + 4 * w.fed ≤ _
        rw [nz.1]
        show eb_n h + 4 * w.fed ≤ _
        omega
      · show eb_z g' + 42 * w.fed ≤ _
        rw [q2.2.1]
        show eb_z h' + 42 * w.fed ≤ _
        rw [nz.2.1]
        show eb_z h + 42 * w.fed ≤ _
        omega
    · exfalso; rw [eb_i32, eb_c2] at c; omega
  · have M : eb_Ct 1299 280 [.ref s_MO, .int v1] h (fun r2 h2 => r2 = some (.int (-2)) ∧ eb_Inv L xs (k + 1) h2) :=
      T_X11_image (d := 1298) v1 ko ⟨fun c => absurd (m1.mp c) rg, fun _ => ⟨rfl, inv2⟩⟩
    refine T_X10_image (d := 1298) v1 ko ⟨fun c => ⟨_, rfl, ko, rfl, rfl, M⟩, fun c => ⟨fun c2 => ?_, fun _ => ⟨_, rfl, ko, rfl, rfl, M⟩⟩⟩
    exfalso
    rw [eb_i32, eb_c2] at c2
    rw [eb_i32, eb_z32] at c
    omega
end EBIMAGE2

section EBNUM
variable {L : Nat} {xs : Nat → Int32}
theorem M_num_l {d : Nat} {h0 : eb_H} {Q : Option Value → eb_H → Prop} (v1 : Int32) (rg : 0 ≤ v1.toInt ∧ v1.toInt < 4) (n : Nat) (hn : n ≤ 40) : ∀ (m j : Nat) (g : eb_H), j + m = n → eb_KO g → (∀ q, q < j → eb_J g s_m_numbers (40 * v1.toInt.toNat + q) = 0) → (∀ g', eb_same (fun c => c ≠ s_m_numbers) g g' → eb_nz g g' → eb_I g' = eb_I g → (∀ q, (q < 40 * v1.toInt.toNat ∨ 40 * v1.toInt.toNat + 40 ≤ q) → eb_J g' s_m_numbers q = eb_J g s_m_numbers q) → (∀ q, q < n → eb_J g' s_m_numbers (40 * v1.toInt.toNat + q) = 0) → Q (some (.int 0)) g') → eb_Sn (d + 1) m_X11_numbers h0 64 [(0, .ref s_MO), (1, .int v1), (3, .int (nI n)), (4, .int (nI j))] [] g Q := by
  intro m
  induction m with
  | zero =>
    intro j g hj ko hf w
    refine b_X11_numbers_64 v1 _ _ ko ⟨fun _ => w g eb_same.rfl eb_nz.rfl rfl (fun _ _ => rfl) (fun q hq => hf q (by omega)), fun c => ?_⟩
    exfalso
    apply c
    rw [nI_leI (by omega) (by omega)]
    omega
  | succ m ih =>
    intro j g hj ko hf w
    have tj : (nI j).toInt = (j : Int) := nI_toInt (by omega)
    have idx := eb_4i (y := nI j) rg ⟨by omega, by omega⟩
    have tx : ((40 : Int32) * v1 + nI j).toNatClampNeg = 40 * v1.toInt.toNat + j := by
      rw [idx, eb_tnc, nI_toInt (by omega)]; omega
    refine b_X11_numbers_64 v1 _ _ ko ⟨fun c => ?_, fun _ => ⟨?_, ?_⟩⟩
    · exfalso
      rw [nI_leI (by omega) (by omega)] at c
      omega
    · rw [idx]; exact vp_in_nI (by omega) (by omega)
    · rw [show nI j + 1 = nI (j + 1) from nI_add j 1, tx]
      refine ih (j + 1) _ (by omega) ko ?_ ?_
      · intro q hq
        rw [eb_J_sJ]
        by_cases e : q = j
        · rw [if_pos (by omega)]
        · rw [if_neg (by omega)]; exact hf q (by omega)
      · intro g' s1 s2 s3 s4 s5
        refine w g' ((eb_same.rfl.sJ (fun z => z rfl)).trans s1) (eb_nz.trans ⟨rfl, rfl, rfl, rfl, rfl⟩ s2) s3 (fun q hq => ?_) s5
        rw [s4 q hq, eb_J_sJ, if_neg (by omega)]
/-- 38: numbers -/
theorem c_numbers (k : Nat) (h : eb_H) (v1 v2 v3 : Int32) (inv : eb_Inv L xs k h) : eb_Pr 133 277 [.int v1, .int v2, .int v3] (eb_Inv L xs (k + 1)) h := by
  have inv2 := inv.z0 (v := 0)
  obtain ⟨ko, eL, eX, w, b1, b2, b3, b4, b5, b6⟩ := inv
  have m1 : ((¬ (v1.toInt64 < 0)) ∧ (¬ (3 < v1.toInt64))) ↔ (0 ≤ v1.toInt ∧ v1.toInt < 4) := by rw [eb_l64a, eb_l64b, eb_z64, eb_d3]; omega
  have m2 : ((¬ (v2.toInt64 < 0)) ∧ (¬ (3 < v2.toInt64))) ↔ (0 ≤ v2.toInt ∧ v2.toInt < 4) := by rw [eb_l64a, eb_l64b, eb_z64, eb_d3]; omega
  have m3 : ((¬ (v3.toInt64 < 0)) ∧ (¬ (40 < v3.toInt64))) ↔ (0 ≤ v3.toInt ∧ v3.toInt ≤ 40) := by rw [eb_l64a, eb_l64b, eb_z64, eb_d40]; omega
  have x1 : ((v1 < 0) ∨ (¬ (v1 < (4 : Int32)))) ↔ ¬ (0 ≤ v1.toInt ∧ v1.toInt < 4) := by rw [eb_i32, eb_i32, eb_z32, eb_c4]; omega
  by_cases g1 : 0 ≤ v1.toInt ∧ v1.toInt < 4
  · by_cases g2 : 0 ≤ v2.toInt ∧ v2.toInt < 4
    · by_cases g3 : 0 ≤ v3.toInt ∧ v3.toInt ≤ 40
      · have hi : v1.toInt.toNat < 4 := by omega
        have vi : vp_in v1 4 := vp_in_iff.mpr (by omega)
        obtain ⟨r1, r2, r3, r4, r5⟩ := eb_trs ko hi
        refine T_X10_numbers (d := 1298) v1 v2 v3 ko ⟨fun c => absurd g1 (x1.mp c), fun _ => ⟨fun c => ?_, fun _ => ⟨fun _ => ⟨fun c => ?_, fun _ => ⟨fun _ => ⟨vi, _, r1, r2, ?_⟩, fun c => ?_⟩⟩, fun c => ?_⟩⟩⟩
        · exfalso; rw [eb_i32, eb_z32] at c; omega
        · exfalso; rw [eb_i32, eb_z32] at c; omega
        · refine T_X8_makeAnew (d := 1297) _ v2 v3 r2 ko ⟨_, r3, r4, C_fillJ _ 0 r4 ko ?_⟩
          intro g0 s1 s2 s3
          have koG0 := s2.ko ko
          refine ⟨rfl, koG0, rfl, koG0, 0, rfl, koG0, s2.2.2.1, s2.2.2.2.1, ?_⟩
          have pX : PX (w.setTray v1.toInt.toNat (v2, v3, fun _ => 0)) (eb_sI (eb_sI (eb_sI g0 (s_trays_0 + 1048576 * v1.toInt.toNat) 1 v2) (s_trays_0 + 1048576 * v1.toInt.toNat) 3 v3) (s_trays_0 + 1048576 * v1.toInt.toNat) 2 0) := by
            refine b1.setTray hi _ ((((s1.weak (fun c z => z.2)).sI (fun z => z.1 rfl)).sI (fun z => z.1 rfl)).sI (fun z => z.1 rfl)) ⟨?_, ?_, ?_, ?_⟩
            · rw [eb_I_sI']
            · simp [eb_I_sI]; rfl
            · simp [eb_I_sI]; rfl
            · intro j hj hz
              show eb_J g0 _ j = 0
              exact s3 j (by rw [r5]; exact hj)
          have pM : PM w (eb_sI (eb_sI (eb_sI (eb_sI g0 (s_trays_0 + 1048576 * v1.toInt.toNat) 1 v2) (s_trays_0 + 1048576 * v1.toInt.toNat) 3 v3) (s_trays_0 + 1048576 * v1.toInt.toNat) 2 0) s_MO 0 0) := by
            have nm : ¬ eb_isM (s_trays_0 + 1048576 * v1.toInt.toNat) := by unfold eb_isM eb_ix s_trays_0; omega
            refine (b2.mv ((((s1.weak (fun c z => ?_)).sI nm).sI nm).sI nm)).z0
            intro e
            rw [e] at z
            unfold eb_isM eb_ix s_trays_0_values at z
            omega
          have nzg : eb_nz h (eb_sI (eb_sI (eb_sI g0 (s_trays_0 + 1048576 * v1.toInt.toNat) 1 v2) (s_trays_0 + 1048576 * v1.toInt.toNat) 3 v3) (s_trays_0 + 1048576 * v1.toInt.toNat) 2 0) := s2.trans ⟨rfl, rfl, rfl, rfl, rfl⟩
          generalize eb_sI (eb_sI (eb_sI g0 (s_trays_0 + 1048576 * v1.toInt.toNat) 1 v2) (s_trays_0 + 1048576 * v1.toInt.toNat) 3 v3) (s_trays_0 + 1048576 * v1.toInt.toNat) 2 0 = g at *
          have koG := nzg.ko ko
          refine T_X11_numbers (d := 1298) v1 v2 v3 koG ⟨fun c => absurd (m1.mpr g1) c, fun _ => ⟨fun _ => ⟨fun _ => ⟨vi, vi, ?_⟩, fun c => absurd (m3.mpr g3) c⟩, fun c => absurd (m2.mpr g2) c⟩⟩
          rw [show v1.toNatClampNeg = v1.toInt.toNat from rfl]
          have e3 := eb_ofn g3.1
          rw [show (Value.int v3) = Value.int (nI v3.toInt.toNat) by rw [← e3]]
          refine M_num_l v1 g1 v3.toInt.toNat (by omega) v3.toInt.toNat 0 _ (by omega) koG (fun q hq => absurd hq (by omega)) ?_
          intro g' q1 q2 q3 q4 q5
          refine ⟨rfl, q2.ko koG, (q2.2.2.1.trans nzg.2.2.1).trans eL, (q2.2.2.2.1.trans nzg.2.2.2.1).trans eX, w.setTray v1.toInt.toNat (v2, v3, fun _ => 0), ?_, ?_, b3.setTray _ _ ⟨⟨g2.1, by show v2.toInt ≤ 3; omega⟩, g3⟩, ?_, ?_, ?_⟩
          · refine pX.mvM ?_
            have nm : ∀ c, eb_isM c → ¬ ¬ eb_isM c := fun _ z y => y z
            refine eb_same.trans (((eb_same.rfl.sI (nm s_MO (by unfold eb_isM eb_ix s_MO; omega))).sI (nm s_m_rowSort (by unfold eb_isM eb_ix s_m_rowSort; omega))).sI (nm s_m_rowMany (by unfold eb_isM eb_ix s_m_rowMany; omega))) (q1.weak (fun c z y => z ?_))
            rw [y]
            unfold eb_isM eb_ix s_m_numbers
            omega
          · refine pM.setTray b3 hi _ (fun c y1 y2 => ?_) (fun j y => ?_) (fun j y => ?_) ⟨?_, ?_, ?_⟩
            · rw [q3, eb_I_sIn y2, eb_I_sIn y1]
            · rw [q3]
              constructor
              · rw [eb_I_sIn (show s_m_rowSort ≠ s_m_rowMany by decide), eb_I_sI, if_neg y]
              · rw [eb_I_sI, if_neg y, eb_I_sIn (show s_m_rowMany ≠ s_m_rowSort by decide)]
            · rw [q4 j y]; rfl
            · rw [q3, eb_I_sIn (by decide), eb_I_sI']; rfl
            · rw [q3, eb_I_sI']; rfl
            · intro j hj hz
              have hz : (j : Int) < v3.toInt := hz
              exact q5 j (by omega)
          · rw [q2.1]
            show 89 ≤ eb_n g
            rw [nzg.1]; exact b4
          · rw [q2.1]
            show eb_n g + 4 * w.fed ≤ _
            rw [nzg.1]; omega
          · rw [q2.2.1]
            show eb_z g + 42 * w.fed ≤ _
            rw [nzg.2.1]; omega
        · exfalso; rw [eb_i32e, eb_c40] at c; omega
        · exfalso; rw [eb_i32, eb_c4] at c; omega
      · have M : eb_Ct 1299 277 [.ref s_MO, .int v1, .int v2, .int v3] h (fun r2 h2 => r2 = some (.int (-3)) ∧ eb_Inv L xs (k + 1) h2) :=
          T_X11_numbers (d := 1298) v1 v2 v3 ko ⟨fun c => absurd (m1.mpr g1) c, fun _ => ⟨fun _ => ⟨fun c => absurd (m3.mp c) g3, fun _ => ⟨rfl, inv2⟩⟩, fun c => absurd (m2.mpr g2) c⟩⟩
        refine T_X10_numbers (d := 1298) v1 v2 v3 ko ⟨fun c => absurd g1 (x1.mp c), fun _ => ⟨fun c => ?_, fun _ => ⟨fun _ => ⟨fun c => ⟨_, rfl, ko, rfl, rfl, M⟩, fun c => ⟨fun c2 => ?_, fun c => ⟨_, rfl, ko, rfl, rfl, M⟩⟩⟩, fun c => ?_⟩⟩⟩
        · exfalso; rw [eb_i32, eb_z32] at c; omega
        · exfalso; rw [eb_i32e, eb_c40] at c2; rw [eb_i32, eb_z32] at c; omega
        · exfalso; rw [eb_i32, eb_c4] at c; omega
    · have M : eb_Ct 1299 277 [.ref s_MO, .int v1, .int v2, .int v3] h (fun r2 h2 => r2 = some (.int (-2)) ∧ eb_Inv L xs (k + 1) h2) :=
        T_X11_numbers (d := 1298) v1 v2 v3 ko ⟨fun c => absurd (m1.mpr g1) c, fun _ => ⟨fun c => absurd (m2.mp c) g2, fun _ => ⟨rfl, inv2⟩⟩⟩
      refine T_X10_numbers (d := 1298) v1 v2 v3 ko ⟨fun c => absurd g1 (x1.mp c), fun _ => ⟨fun c => ⟨_, rfl, ko, rfl, rfl, M⟩, fun c => ⟨fun c2 => ?_, fun c => ⟨_, rfl, ko, rfl, rfl, M⟩⟩⟩⟩
      exfalso
      rw [eb_i32, eb_z32] at c
      rw [eb_i32, eb_c4] at c2
      omega
  · refine T_X10_numbers (d := 1298) v1 v2 v3 ko ⟨fun c => ⟨_, rfl, ko, rfl, rfl, ?_⟩, fun c => absurd (x1.mpr g1) c⟩
    exact T_X11_numbers (d := 1298) v1 v2 v3 ko ⟨fun c => ⟨rfl, inv2⟩, fun c => absurd (m1.mp c) g1⟩
end EBNUM

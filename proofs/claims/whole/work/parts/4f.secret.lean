section EBSECRET
variable {L : Nat} {xs : Nat → Int32}
theorem ec_andn {a b : Nat} (ha : a < 2 ^ 64) : ∃ n, n < 2 ^ 64 ∧ lN a &&& (lN b ^^^ (-1)) = lN n ∧ ∀ j, j < 64 → n.testBit j = (a.testBit j && !b.testBit j) := by
  obtain ⟨n, hn, e⟩ := wb_of (lN a &&& (lN b ^^^ (-1)))
  refine ⟨n, hn, e, fun j hj => ?_⟩
  have e2 := congrArg (fun x : Int64 => x.toBitVec.getLsbD j) e
  have m1 : (-1 : Int64).toBitVec = BitVec.allOnes 64 := by decide
  simp only [Int64.toBitVec_and, Int64.toBitVec_xor, BitVec.getLsbD_and, BitVec.getLsbD_xor, wb_tb, BitVec.getLsbD_ofNat, m1, BitVec.getLsbD_allOnes, hj, decide_true, Bool.true_and, Bool.xor_true] at e2
  exact e2.symm
theorem ec_tb_hi {a j : Nat} (ha : a < 2 ^ 64) (hj : ¬ j < 64) : a.testBit j = false := Nat.testBit_lt_two_pow (Nat.lt_of_lt_of_le ha (Nat.pow_le_pow_right (by decide) (by omega)))
/-- the reference counts what is told at a house and not at another -/
theorem M_tc2 {d : Nat} {h0 g g' : eb_H} {Q : Option Value → eb_H → Prop} {w : eb_Wo} (pg : PM w g') (ok : eb_okW w) (kog : eb_KO g') (rc : ∀ n, n < 1024 → (eb_I g' s_m_reached n = 0 ↔ ¬ ec_rc (ec_g w.va w.now w.now.D) (64 * w.now.b + w.now.e) n)) (hh hc : Nat) (hh4 : hh < w.va.houses) (ehc : w.va.hc hh = nI hc) (hhc : hc < w.va.R * w.va.W) (h2 c2 : Nat) (h24 : h2 < w.va.houses) (ec2 : w.va.hc h2 = nI c2) (hc2 : c2 < w.va.R * w.va.W) : ∀ (m j n : Nat), j + m = 64 → n ≤ j → Q (some (.int (nI (n + ec_cnt (fun j => (ec_st w hc).testBit j && !(ec_st w c2).testBit j) m j)))) g' → eb_Sn d m_X11_tidingAt h0 6 [(0, .ref s_MO), (1, .int (nI hh)), (2, .int (nI h2)), (3, .int (-1)), (4, .int (nI n)), (5, .int (nI j))] [] g' Q := by
  have r10 := ok.va.RW.2.2.2.2.2.2.2.2.2.1
  have h4 := ok.va.houses
  have e27 : (27 : Int32) + nI hh = nI (27 + hh) := ec_9 27 hh
  have e27' : (27 : Int32) + nI h2 = nI (27 + h2) := ec_9 27 h2
  have ah : eb_I g' s_m_all (27 + hh) = nI hc := by
    have := pg.va.2.2.2.2.2.2.2.2 hh hh4
    rw [Nat.zero_add, ehc] at this
    exact this
  have ah2 : eb_I g' s_m_all (27 + h2) = nI c2 := by
    have := pg.va.2.2.2.2.2.2.2.2 h2 h24
    rw [Nat.zero_add, ec2] at this
    exact this
  intro m
  induction m with
  | zero =>
    intro j n hj hn u
    refine b_X11_tidingAt_6 _ _ _ _ _ kog ⟨fun _ => ?_, fun z => absurd (nI_le (a := 64) (by omega) (by omega)) z⟩
    rw [if_neg (by decide)]
    exact u
  | succ m ih =>
    intro j n hj hn u
    have us : ec_cnt (fun j => (ec_st w hc).testBit j && !(ec_st w c2).testBit j) (m + 1) j = (if ((ec_st w hc).testBit j && !(ec_st w c2).testBit j) = true then 1 else 0) + ec_cnt (fun j => (ec_st w hc).testBit j && !(ec_st w c2).testBit j) m (j + 1) := rfl
    rw [us] at u
    have e64 : (64 : Int32) * nI hc + nI j = nI (64 * hc + j) := by
      rw [show (64 : Int32) * nI hc = nI (64 * hc) from pk_mul 64 hc, nI_add]
    have e64' : (64 : Int32) * nI c2 + nI j = nI (64 * c2 + j) := by
      rw [show (64 : Int32) * nI c2 = nI (64 * c2) from pk_mul 64 c2, nI_add]
    refine b_X11_tidingAt_6 _ _ _ _ _ kog ⟨fun z => absurd z (nI_ge (a := j) (b := 64) (by omega) (by omega)), fun _ => ?_⟩
    rw [e27, eb_cln (n := 27 + hh) (by omega), ah, e64, eb_cln (n := 64 * hc + j) (by omega), M_rd (d := 0) (g := g) rc (by omega) (by omega), nI_1, nI_1, e27', eb_cln (n := 27 + h2) (by omega), ah2, e64', eb_cln (n := 64 * c2 + j) (by omega), M_rd (d := 0) (g := g) rc (by omega) (by omega)]
    refine ⟨vp_in_nI (by omega) (by omega), vp_in_nI (by omega) (by omega), fun z => ?_, fun z => ⟨fun y => absurd y (ec_m1 (by omega)), fun _ => ⟨vp_in_nI (by omega) (by omega), vp_in_nI (by omega) (by omega), fun y => ⟨fun _ => ?_, fun y => absurd y (ec_m1 (by omega))⟩, fun y => ?_⟩⟩⟩
    · rw [if_neg (by simp [z]), Nat.zero_add] at u
      exact ih (j + 1) n (by omega) (by omega) u
    · rw [if_pos (by simp [Decidable.not_not.mp z, y]), ← Nat.add_assoc] at u
      exact ih (j + 1) (n + 1) (by omega) (by omega) u
    · rw [if_neg (by simp [Decidable.not_not.mp y]), Nat.zero_add] at u
      exact ih (j + 1) n (by omega) (by omega) u
/-- 27: secret -/
theorem c_secret (k : Nat) (h : eb_H) (v1 v2 : Int32) (inv : eb_Inv L xs k h) : eb_Pr 121 248 [.int v1, .int v2] (eb_Inv L xs (k + 1)) h := by
  refine eb_pr inv (fun w ok => ?_)
  obtain ⟨r1, r2, r3, r4, r5, r6, r7, r8, r9, r10, _⟩ := ok.va.RW
  obtain ⟨n1, n2, n3, n4, n5, n6, n7⟩ := ok.now.N ok.va
  by_cases hx : 0 ≤ v1.toInt ∧ v1.toInt < (w.va.houses : Nat)
  · by_cases hy : 0 ≤ v2.toInt ∧ v2.toInt < (w.va.houses : Nat)
    · obtain ⟨hh, hh4, rfl⟩ := ec_in hx
      obtain ⟨h2, h24, rfl⟩ := ec_in hy
      obtain ⟨ehc, hhc⟩ := ec_hcn ok.va hh4
      obtain ⟨ec2, hc2⟩ := ec_hcn ok.va h24
      have h4 := ok.va.houses
      have sl := ec_st_lt w (w.va.hc hh).toInt.toNat
      have sl2 := ec_st_lt w (w.va.hc h2).toInt.toNat
      refine ⟨nI (ec_cnt (fun j => (ec_st w (w.va.hc hh).toInt.toNat).testBit j && !(ec_st w (w.va.hc h2).toInt.toNat).testBit j) 64 0), w, ok, by omega, eb_XS.of (fun h ko p Q q => ?_), eb_MS.of (fun h g ko eg kog p Q q => ?_)⟩
      · obtain ⟨v, ev, pv⟩ := p.va
        obtain ⟨l1, l2, l3, l4⟩ := eb_va_ln pv.1.1 pv.1.2.1
        have p6 := pv.2.2.2.2.2.2.1
        refine T_X10_secret (d := 1298) _ _ ko ⟨v, ev, pv.1.1, fun z => absurd ((X_hh pv ok.va _).mpr hx) z, fun _ => ⟨fun _ => ⟨fun z => absurd z (nI_pos (by omega)), fun _ => ⟨_, p6.1, l2, fun z => ?_, fun _ => ⟨?_, ?_⟩⟩⟩, fun z => absurd ((X_hh pv ok.va _).mpr hy) z⟩⟩
        · exfalso
          rw [l1] at z
          exact nI_ge (a := hh) (b := 4) (by omega) (by omega) z
        · rw [l1]; exact vp_in_nI (by omega) (by omega)
        · rw [eb_cln (by omega), p6.2 hh hh4, show (Value.int (w.va.hc hh)) = Value.int (nI (w.va.hc hh).toInt.toNat) by rw [← ehc]]
          refine C_si (d := 1291) p ko ok _ (by omega) (fun h7 found ord pp pw ff b so => ⟨_, rfl, ff.1, ?_⟩)
          obtain ⟨u, eu, pu⟩ := (ff.px p).va
          obtain ⟨k1, k2, k3, k4⟩ := eb_va_ln pu.1.1 pu.1.2.1
          have p7 := pu.2.2.2.2.2.2.1
          refine ⟨u, eu, pu.1.1, fun z => absurd z (nI_pos (by omega)), fun _ => ⟨_, p7.1, k2, fun z => ?_, fun _ => ⟨?_, ?_⟩⟩⟩
          · exfalso
            rw [k1] at z
            exact nI_ge (a := h2) (b := 4) (by omega) (by omega) z
          · rw [k1]; exact vp_in_nI (by omega) (by omega)
          · rw [eb_cln (by omega), p7.2 h2 h24, show (Value.int (w.va.hc h2)) = Value.int (nI (w.va.hc h2).toInt.toNat) by rw [← ec2]]
            refine C_sets (d := 1297) b (by omega) so _ (by omega) ff.1 ⟨_, rfl, ff.1, ?_⟩
            rw [ec_st_eq b]
            obtain ⟨n, hn, en, bn⟩ := ec_andn (b := ec_st w (w.va.hc h2).toInt.toNat) sl
            rw [en]
            refine ec_bcn n hn ff.1 ⟨_, rfl, ff.1, ?_⟩
            have ee : ec_cnt (fun j => n.testBit j) 64 0 = ec_cnt (fun j => (ec_st w (w.va.hc hh).toInt.toNat).testBit j && !(ec_st w (w.va.hc h2).toInt.toNat).testBit j) 64 0 := ec_cnt_cg (fun j => by
              by_cases hj : j < 64
              · exact bn j hj
              · show n.testBit j = ((ec_st w (w.va.hc hh).toInt.toNat).testBit j && !(ec_st w (w.va.hc h2).toInt.toNat).testBit j)
                rw [ec_tb_hi hn hj, ec_tb_hi sl hj]
                rfl) 64 0
            rw [ee]
            exact q h7 ff.fx (ff.px p)
      · refine T_X11_secret (d := 1297) _ _ ko ?_
        rw [← eg]
        have e50 : eb_I g s_m_all (50 : Int32).toNatClampNeg = nI w.now.D := p.now.2.2.2.2.1.trans n3
        rw [e50]
        refine ⟨fun z => absurd ((M_hh p.va ok.va _).mpr hx) z, fun _ => ⟨fun _ => ?_, fun z => absurd ((M_hh p.va ok.va _).mpr hy) z⟩⟩
        refine M_lr (d := 1294) p ok kog w.now.D n6 (fun g' F rc => ⟨rfl, F.ko kog, ?_⟩)
        refine T_X11_tidingAt _ _ _ (F.ko kog) (M_tc2 (g := g) (p.mr F) ok (F.ko kog) rc hh _ hh4 ehc hhc h2 _ h24 ec2 hc2 64 0 0 (by omega) (by omega) ⟨_, rfl, F.ko kog, ?_⟩)
        rw [Nat.zero_add]
        exact q g' (F.fm kog ec_mr_M) (p.mr F)
    · refine ⟨-2, w, ok, by omega, eb_XS.of (fun h ko p Q q => ?_), eb_MS.of (fun h g ko eg kog p Q q => ?_)⟩
      · obtain ⟨v, ev, pv⟩ := p.va
        exact T_X10_secret (d := 1298) _ _ ko ⟨v, ev, pv.1.1, fun z => absurd ((X_hh pv ok.va _).mpr hx) z, fun _ => ⟨fun z => absurd ((X_hh pv ok.va _).mp z) hy, fun _ => q h (eb_fx.rfl ko) p⟩⟩
      · refine T_X11_secret (d := 1297) _ _ ko ?_
        rw [← eg]
        exact ⟨fun z => absurd ((M_hh p.va ok.va _).mpr hx) z, fun _ => ⟨fun z => absurd ((M_hh p.va ok.va _).mp z) hy, fun _ => q g (eb_fm.rfl kog) p⟩⟩
  · refine ⟨-2, w, ok, by omega, eb_XS.of (fun h ko p Q q => ?_), eb_MS.of (fun h g ko eg kog p Q q => ?_)⟩
    · obtain ⟨v, ev, pv⟩ := p.va
      exact T_X10_secret (d := 1298) _ _ ko ⟨v, ev, pv.1.1, fun _ => q h (eb_fx.rfl ko) p, fun z => absurd ((X_hh pv ok.va _).mp z) hx⟩
    · refine T_X11_secret (d := 1297) _ _ ko ?_
      rw [← eg]
      exact ⟨fun _ => q g (eb_fm.rfl kog) p, fun z => absurd ((M_hh p.va ok.va _).mp z) hx⟩
end EBSECRET

section EBTIDINGS
variable {L : Nat} {xs : Nat → Int32}
/-- the reference counts what is told at a house, but not at another -/
theorem M_tc {d : Nat} {h0 g g' : eb_H} {Q : Option Value → eb_H → Prop} {w : eb_Wo} (pg : PM w g') (ok : eb_okW w) (kog : eb_KO g') (rc : ∀ n, n < 1024 → (eb_I g' s_m_reached n = 0 ↔ ¬ ec_rc (ec_g w.va w.now w.now.D) (64 * w.now.b + w.now.e) n)) (hh hc : Nat) (hh4 : hh < w.va.houses) (ehc : w.va.hc hh = nI hc) (hhc : hc < w.va.R * w.va.W) : ∀ (m j n : Nat), j + m = 64 → n ≤ j → Q (some (.int (nI (n + ec_cnt (fun j => (ec_st w hc).testBit j) m j)))) g' → eb_Sn d m_X11_tidingAt h0 6 [(0, .ref s_MO), (1, .int (nI hh)), (2, .int (-1)), (3, .int (-1)), (4, .int (nI n)), (5, .int (nI j))] [] g' Q := by
  have r10 := ok.va.RW.2.2.2.2.2.2.2.2.2.1
  have h4 := ok.va.houses
  have e27 : (27 : Int32) + nI hh = nI (27 + hh) := ec_9 27 hh
  have ah : eb_I g' s_m_all (27 + hh) = nI hc := by
    have := pg.va.2.2.2.2.2.2.2.2 hh hh4
    rw [Nat.zero_add, ehc] at this
    exact this
  intro m
  induction m with
  | zero =>
    intro j n hj hn u
    refine b_X11_tidingAt_6 _ _ _ _ _ kog ⟨fun _ => ?_, fun z => absurd (nI_le (a := 64) (by omega) (by omega)) z⟩
    rw [if_neg (by decide)]
    exact u
  | succ m ih =>
    intro j n hj hn u
    have us : ec_cnt (fun j => (ec_st w hc).testBit j) (m + 1) j = (if (ec_st w hc).testBit j = true then 1 else 0) + ec_cnt (fun j => (ec_st w hc).testBit j) m (j + 1) := rfl
    rw [us] at u
    have e64 : (64 : Int32) * nI hc + nI j = nI (64 * hc + j) := by
      rw [show (64 : Int32) * nI hc = nI (64 * hc) from pk_mul 64 hc, nI_add]
    refine b_X11_tidingAt_6 _ _ _ _ _ kog ⟨fun z => absurd z (nI_ge (a := j) (b := 64) (by omega) (by omega)), fun _ => ?_⟩
    rw [e27, eb_cln (n := 27 + hh) (by omega), ah, e64, eb_cln (n := 64 * hc + j) (by omega), M_rd (d := 0) (g := g) rc (by omega) (by omega), nI_1, nI_1]
    refine ⟨vp_in_nI (by omega) (by omega), vp_in_nI (by omega) (by omega), fun z => ?_, fun z => ⟨fun _ => ⟨fun y => ?_, fun y => absurd y (ec_m1 (by omega))⟩, fun y => absurd rfl y⟩⟩
    · rw [if_neg z, Nat.zero_add] at u
      exact ih (j + 1) n (by omega) (by omega) u
    · rw [if_pos (Decidable.not_not.mp z), ← Nat.add_assoc] at u
      exact ih (j + 1) (n + 1) (by omega) (by omega) u
/-- 25: tidings -/
theorem c_tidings (k : Nat) (h : eb_H) (v1 : Int32) (inv : eb_Inv L xs k h) : eb_Pr 119 246 [.int v1] (eb_Inv L xs (k + 1)) h := by
  refine eb_pr inv (fun w ok => ?_)
  obtain ⟨r1, r2, r3, r4, r5, r6, r7, r8, r9, r10, _⟩ := ok.va.RW
  obtain ⟨n1, n2, n3, n4, n5, n6, n7⟩ := ok.now.N ok.va
  by_cases hx : 0 ≤ v1.toInt ∧ v1.toInt < (w.va.houses : Nat)
  · obtain ⟨hh, hh4, rfl⟩ := ec_in hx
    obtain ⟨ehc, hhc⟩ := ec_hcn ok.va hh4
    have h4 := ok.va.houses
    have sl := ec_st_lt w (w.va.hc hh).toInt.toNat
    refine ⟨nI (ec_cnt (fun j => (ec_st w (w.va.hc hh).toInt.toNat).testBit j) 64 0), w, ok, by omega, eb_XS.of (fun h ko p Q q => ?_), eb_MS.of (fun h g ko eg kog p Q q => ?_)⟩
    · obtain ⟨v, ev, pv⟩ := p.va
      obtain ⟨l1, l2, l3, l4⟩ := eb_va_ln pv.1.1 pv.1.2.1
      have p6 := pv.2.2.2.2.2.2.1
      refine T_X10_tidings (d := 1298) _ ko ⟨v, ev, pv.1.1, fun z => absurd ((X_hh pv ok.va _).mpr hx) z, fun _ => ⟨fun z => absurd z (nI_pos (by omega)), fun _ => ⟨_, p6.1, l2, fun z => ?_, fun _ => ⟨?_, ?_⟩⟩⟩⟩
      · exfalso
        rw [l1] at z
        exact nI_ge (a := hh) (b := 4) (by omega) (by omega) z
      · rw [l1]; exact vp_in_nI (by omega) (by omega)
      · rw [eb_cln (by omega), p6.2 hh hh4, show (Value.int (w.va.hc hh)) = Value.int (nI (w.va.hc hh).toInt.toNat) by rw [← ehc]]
        refine C_si (d := 1291) p ko ok _ (by omega) (fun h7 found ord pp pw ff b so => ⟨_, rfl, ff.1, ?_⟩)
        exact ec_bcn _ sl ff.1 ⟨_, rfl, ff.1, q h7 ff.fx (ff.px p)⟩
    · refine T_X11_tidings (d := 1297) _ ko ?_
      rw [← eg]
      have e50 : eb_I g s_m_all (50 : Int32).toNatClampNeg = nI w.now.D := p.now.2.2.2.2.1.trans n3
      rw [e50]
      refine ⟨fun _ => ?_, fun z => absurd ((M_hh p.va ok.va _).mpr hx) z⟩
      refine M_lr (d := 1294) p ok kog w.now.D n6 (fun g' F rc => ⟨rfl, F.ko kog, ?_⟩)
      refine T_X11_tidingAt _ _ _ (F.ko kog) (M_tc (g := g) (p.mr F) ok (F.ko kog) rc hh _ hh4 ehc hhc 64 0 0 (by omega) (by omega) ⟨_, rfl, F.ko kog, ?_⟩)
      rw [Nat.zero_add]
      exact q g' (F.fm kog ec_mr_M) (p.mr F)
  · refine ⟨-2, w, ok, by omega, eb_XS.of (fun h ko p Q q => ?_), eb_MS.of (fun h g ko eg kog p Q q => ?_)⟩
    · obtain ⟨v, ev, pv⟩ := p.va
      exact T_X10_tidings (d := 1298) _ ko ⟨v, ev, pv.1.1, fun _ => q h (eb_fx.rfl ko) p, fun z => absurd ((X_hh pv ok.va _).mp z) hx⟩
    · refine T_X11_tidings (d := 1297) _ ko ?_
      rw [← eg]
      exact ⟨fun z => absurd ((M_hh p.va ok.va _).mp z) hx, fun _ => q g (eb_fm.rfl kog) p⟩
end EBTIDINGS

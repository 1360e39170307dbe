section EBALL
variable {L : Nat} {xs : Nat → Int32}
/-! told deeds one after the other -/
def ec_all (V : eb_Va) (f : Nat → Int64) : Nat → Nat → eb_St → Nat × eb_St
  | 0, j, s => (j, s)
  | m + 1, j, s => if ec_dw V s (ec_xn (f j)) = 0 then ec_all V f m (j + 1) (ec_ds V s (ec_xn (f j))) else (j, s)
theorem ec_all_0 {V : eb_Va} {f : Nat → Int64} {m j : Nat} {s : eb_St} (h : ec_dw V s (ec_xn (f j)) = 0) : ec_all V f (m + 1) j s = ec_all V f m (j + 1) (ec_ds V s (ec_xn (f j))) := by
  show (if ec_dw V s (ec_xn (f j)) = 0 then _ else _) = _
  rw [if_pos h]
theorem ec_all_1 {V : eb_Va} {f : Nat → Int64} {m j : Nat} {s : eb_St} (h : ¬ ec_dw V s (ec_xn (f j)) = 0) : ec_all V f (m + 1) j s = (j, s) := by
  show (if ec_dw V s (ec_xn (f j)) = 0 then _ else _) = _
  rw [if_neg h]
theorem ec_all_le {V : eb_Va} {f : Nat → Int64} : ∀ (m j : Nat) (s : eb_St), j ≤ (ec_all V f m j s).1 ∧ (ec_all V f m j s).1 ≤ j + m ∧ ((ec_all V f m j s).1 < j + m → ec_dw V (ec_all V f m j s).2 (ec_xn (f (ec_all V f m j s).1)) ≠ 0) ∧ ((ec_all V f m j s).1 = j → (ec_all V f m j s).2 = s)
  | 0, j, s => ⟨Nat.le_refl _, Nat.le_refl _, fun z => absurd z (Nat.lt_irrefl _), fun _ => rfl⟩
  | m + 1, j, s => by
    by_cases h : ec_dw V s (ec_xn (f j)) = 0
    · rw [ec_all_0 h]
      obtain ⟨a, b, c, _⟩ := ec_all_le m (j + 1) (ec_ds V s (ec_xn (f j)))
      exact ⟨by omega, by omega, fun z => c (by omega), fun z => by omega⟩
    · rw [ec_all_1 h]
      exact ⟨Nat.le_refl _, by dsimp only; omega, fun _ => h, fun _ => rfl⟩
theorem ec_all_ok {V : eb_Va} {f : Nat → Int64} (ok : eb_okV V) : ∀ (m j : Nat) (s : eb_St), eb_okS V s → eb_okS V (ec_all V f m j s).2
  | 0, _, _, h => h
  | m + 1, j, s, h => by
    by_cases z : ec_dw V s (ec_xn (f j)) = 0
    · rw [ec_all_0 z]
      exact ec_all_ok ok m (j + 1) _ (ec_ds_ok ok h _ z)
    · rw [ec_all_1 z]
      exact h
theorem ec_dw_lt {V : eb_Va} {s : eb_St} (n : Nat) : ec_dw V s n < 5 := by
  unfold ec_dw
  split
  · by_cases z : ec_why V s s.D s.b s.e n = 0
    · omega
    · exact (ec_out_why.2 z).1
  · split
    · split <;> omega
    · split
      · omega
      · split <;> omega
theorem C_all {d : Nat} {h0 h : eb_H} {Q : Option Value → eb_H → Prop} {w : eb_Wo} (p : PX w h) (ok : eb_okW w) (ko : eb_KO h) (a : Nat) (ia : eb_isS a) (na : ¬ eb_isV a) (nb : ¬ eb_isV (a + 524807)) (da : ∀ c, ec_da a c → ec_sn c) (i : Nat) (hi : i < 4) (t : eb_Ty) (ht : w.tray i = some t) : ∀ (m j : Nat) (g : eb_H) (s : eb_St), j + m = t.size.toInt.toNat → PXS g a s → eb_okS w.va s → ec_gf ec_sn h g → (∀ g', ec_gf (ec_da a) g g' → PXS g' a (ec_all w.va t.val m j s).2 → Q (some (.int (nI (ec_all w.va t.val m j s).1))) g') → eb_Sn (d + 7) m_X10_doAll h0 2 [(0, .ref s_EB), (1, .ref (s_trays_0 + 1048576 * i)), (2, .ref a), (3, .int (nI j))] [] g Q := by
  obtain ⟨v, ev, pv⟩ := p.va
  obtain ⟨o1, o2⟩ := ok.tray i t hi ht
  have T := p.tray i hi
  rw [ht] at T
  obtain ⟨t1, t2, t3, t4⟩ := T
  have tsz : t.size = nI t.size.toInt.toNat := eb_ofn o2.1
  have hN : t.size.toInt.toNat ≤ 40 := by omega
  have nt : ¬ ec_sn (s_trays_0 + 1048576 * i) ∧ ¬ ec_sn (s_trays_0_values + 1048576 * i) := by
    unfold ec_sn ec_sc ec_19 eb_kd eb_ix s_trays_0 s_trays_0_values; omega
  intro m
  induction m with
  | zero =>
    intro j g s hj ps os G w1
    have k3 : eb_I g (s_trays_0 + 1048576 * i) 3 = nI t.size.toInt.toNat := by rw [G.at nt.1, t3]; exact tsz
    obtain ⟨r1, r2, r3, r4, r5⟩ := eb_trs (G.ko ko) hi
    refine b_X10_doAll_2 (d := d + 6) _ a _ r2 ia.1 (G.ko ko) ⟨fun _ => ?_, fun z => ?_⟩
    · rw [k3, ← hj]
      exact w1 g ec_gf.rfl ps
    · exfalso
      apply z
      rw [k3]
      exact nI_le (by omega) (by omega)
  | succ m ih =>
    intro j g s hj ps os G w1
    have kog := G.ko ko
    have k3 : eb_I g (s_trays_0 + 1048576 * i) 3 = nI t.size.toInt.toNat := by rw [G.at nt.1, t3]; exact tsz
    obtain ⟨r1, r2, r3, r4, r5⟩ := eb_trs kog hi
    refine b_X10_doAll_2 (d := d + 6) _ a _ r2 ia.1 kog ⟨fun z => ?_, fun _ => ⟨v, by rw [G.R]; exact ev, pv.1.1, fun z => absurd z (nI_pos (by omega)), fun _ => ⟨_, r3, r4, fun z => ?_, fun _ => ⟨?_, ?_⟩⟩⟩⟩
    · exfalso
      rw [k3] at z
      exact nI_ge (by omega) (by omega) z
    · exfalso
      rw [r5] at z
      exact nI_ge (a := j) (b := 40) (by omega) (by omega) z
    · rw [r5]; exact vp_in_nI (by omega) (by omega)
    · have ej : eb_J g (s_trays_0_values + 1048576 * i) (nI j).toNatClampNeg = t.val j := by
        rw [eb_cln (by omega), (G.2 _ nt.2).2.1]
        exact t4 j (by omega) (by omega)
      rw [ej, nI_1]
      have pvg : PXV g v w.va := pv.gr G ec_sn_V
      refine C_dd pvg ps ia na ok.va os (t.val j) kog (fun h' F z => ⟨_, rfl, F.ko kog, fun y => ?_, fun _ => ?_⟩) (fun h' z ps' F => ⟨_, rfl, F.ko kog, fun _ => ?_, fun y => absurd rfl y⟩)
      · exfalso
        have := ec_dw_lt (V := w.va) (s := s) (ec_xn (t.val j))
        exact nI_ne0 (by omega) (by omega) y
      · have F2 : ec_gf (ec_da a) g h' := F.gr.weak (fun c y => Or.inl y)
        have := w1 h' F2
        rw [ec_all_1 z] at this
        exact this (ps.gr F.gr ia.n19.1 ia.n19.2)
      · refine ih (j + 1) h' _ (by omega) ps' (ec_ds_ok ok.va os _ z) (G.trans (F.gr.weak da)) (fun g' F3 ps3 => ?_)
        have := w1 g' (F.gr.trans F3)
        rw [ec_all_0 z] at this
        exact this ps3
def ec_told (V : eb_Va) (f : Nat → Int64) (n : Nat) (r : Nat × eb_St) : Nat := if r.1 = n then 0 else ec_dw V r.2 (ec_xn (f r.1))
theorem M_all {d : Nat} {h0 h : eb_H} {Q : Option Value → eb_H → Prop} {w : eb_Wo} (ok : eb_okW w) (ko : eb_KO h) (i : Nat) (hi : i < 4) (t : eb_Ty) (ht : w.tray i = some t) : ∀ (m j : Nat) (g : eb_H) (s : eb_St), j + m = t.size.toInt.toNat → PM (w.setNP s w.past) g → eb_okS w.va s → eb_fm h g → eb_I g s_MO 19 = 0 → (∀ g', eb_fm h g' → PM (w.setNP (ec_all w.va t.val m j s).2 w.past) g' → eb_I g' s_MO 19 = nI (ec_told w.va t.val t.size.toInt.toNat (ec_all w.va t.val m j s)) → eb_I g' s_m_was = eb_I g s_m_was → Q (some (.int (nI (ec_all w.va t.val m j s).1))) g') → eb_Sn (d + 5) m_X11_tells h0 7 [(0, .ref s_MO), (1, .int (nI i)), (2, .int (nI j))] [] g Q := by
  obtain ⟨o1, o2⟩ := ok.tray i t hi ht
  have tsz : t.size = nI t.size.toInt.toNat := eb_ofn o2.1
  have hN : t.size.toInt.toNat ≤ 40 := by omega
  intro m
  induction m with
  | zero =>
    intro j g s hj pm os G e19 w1
    have T := pm.tray i hi
    rw [show (w.setNP s w.past).tray i = some t from ht] at T
    have k3 : eb_I g s_m_rowMany i = nI t.size.toInt.toNat := T.2.1.trans tsz
    refine b_X11_tells_7 (d := d + 4) _ _ G.1 ?_
    rw [eb_cln (by omega), k3]
    refine ⟨vp_in_nI hi (by omega), fun _ => ⟨vp_in_nI hi (by omega), ?_⟩, fun z => ?_⟩
    · rw [← hj]
      refine w1 g G pm ?_ rfl
      rw [e19]
      unfold ec_told
      show 0 = nI (if j = _ then 0 else _)
      rw [if_pos (by omega)]
      rfl
    · exfalso
      apply z
      exact nI_le (by omega) (by omega)
  | succ m ih =>
    intro j g s hj pm os G e19 w1
    have T := pm.tray i hi
    rw [show (w.setNP s w.past).tray i = some t from ht] at T
    have k3 : eb_I g s_m_rowMany i = nI t.size.toInt.toNat := T.2.1.trans tsz
    have idx := eb_4i (x := nI i) (y := nI j) (by rw [nI_toInt (by omega)]; omega) (by rw [nI_toInt (by omega)]; omega)
    rw [nI_toInt (by omega), nI_toInt (by omega), Int.toNat_natCast, Int.toNat_natCast] at idx
    have kv := T.2.2 j (by omega) (by omega)
    refine b_X11_tells_7 (d := d + 4) _ _ G.1 ?_
    rw [idx, eb_cln (n := i) (by omega), eb_cln (n := 40 * i + j) (by omega), k3, kv, nI_1]
    refine ⟨vp_in_nI hi (by omega), fun z => ?_, fun _ => ⟨vp_in_nI (by omega) (by omega), ?_⟩⟩
    · exfalso
      exact nI_ge (by omega) (by omega) z
    · refine M_wn (d := d) (V := w.va) (s := s) pm.va pm.now ok.va os (t.val j) G.1 (fun h5 F5 => ⟨_, rfl, F5.ko G.1, ?_⟩)
      have ko5 := F5.ko G.1
      rw [eb_I_sI']
      have dwl := ec_dw_lt (V := w.va) (s := s) (ec_xn (t.val j))
      have mMO : eb_isM s_MO := by unfold eb_isM eb_ix s_MO; omega
      have f6 : eb_fm h (eb_sI h5 s_MO 19 (nI (ec_dw w.va s (ec_xn (t.val j))))) := (G.trans (F5.fm G.1 ec_mw_isM)).sI mMO
      have p6 : PM (w.setNP s w.past) (eb_sI h5 s_MO 19 (nI (ec_dw w.va s (ec_xn (t.val j))))) := (pm.mw F5).mvD (by rw [eb_I_sI, if_neg (by decide)]) (by rw [eb_I_sI, if_neg (by decide)]) (by rw [eb_I_sI, if_neg (by decide)]) (fun c y => eb_I_sIn (by rcases y with rfl | rfl | rfl | rfl | rfl <;> decide)) rfl
      have w6 : eb_I (eb_sI h5 s_MO 19 (nI (ec_dw w.va s (ec_xn (t.val j))))) s_m_was = eb_I g s_m_was := by rw [eb_I_sIn (by decide), F5.2.2 _ (by unfold ec_mw; decide)]
      have ej : eb_J (eb_sI h5 s_MO 19 (nI (ec_dw w.va s (ec_xn (t.val j))))) s_m_numbers (40 * i + j) = t.val j := by
        show eb_J h5 s_m_numbers (40 * i + j) = _
        rw [F5.2.1]
        exact kv
      rw [ej]
      by_cases z : ec_dw w.va s (ec_xn (t.val j)) = 0
      · refine ⟨fun _ => ⟨vp_in_nI (by omega) (by omega), ?_⟩, fun y => absurd (by rw [z]; rfl) y⟩
        have ex : (t.val j).toInt32 = nI (ec_xn (t.val j)) := by
          by_cases neg : t.val j < 0
          · exfalso
            have xn : ec_xn (t.val j) = 5 := by unfold ec_xn; rw [if_pos neg]
            rw [xn] at z
            rw [show ec_dw w.va s 5 = 1 by unfold ec_dw; rw [if_neg (by omega), if_neg (by omega), if_neg (by omega), if_neg (by omega)]] at z
            exact absurd z (by decide)
          · obtain ⟨k, hk, e⟩ := pk_lOf neg
            rw [e, ec_xn_lN hk, lN_i]
        rw [ex]
        have e190 : eb_I (eb_sI h5 s_MO 19 (nI (ec_dw w.va s (ec_xn (t.val j))))) s_MO 19 = 0 := by rw [eb_I_sI', z]; rfl
        generalize eb_sI h5 s_MO 19 (nI (ec_dw w.va s (ec_xn (t.val j)))) = g6 at *
        have ok6 : eb_okW (w.setNP s w.past) := ok.setNP s w.past os ok.len (fun i hi => by
          have := ok.past i hi
          rw [ec_getD hi w.now ec_s0] at this
          exact this)
        refine M_do (d := d) (V := w.va) (s := s) p6.va p6.now ok.va os _ z f6.1 (fun h10 pn F10 a10 => ⟨rfl, F10.ko f6.1, ?_⟩)
        have F10' : ec_fr (fun c => ec_mw c ∨ c = s_m_all ∨ c = s_m_was) g6 h10 := F10.weak (fun c z => by
          rcases z with z | z
          · exact Or.inl z
          · exact Or.inr (Or.inl z))
        have p10 : PM (w.setNP (ec_ds w.va s (ec_xn (t.val j))) w.past) h10 := p6.now1 ok6 _ F10' a10 pn
        refine ih (j + 1) h10 _ (by omega) p10 (ec_ds_ok ok.va os _ z) (f6.trans (F10'.fm f6.1 ec_mw3)) ?_ (fun g' a b c e => ?_)
        · rw [F10.2.2 s_MO (by unfold ec_mw; decide)]; exact e190
        · have := w1 g' a
          rw [ec_all_0 z] at this
          refine this b c ?_
          rw [e, F10.2.2 s_m_was (by unfold ec_mw; decide), w6]
      · refine ⟨fun y => absurd y (nI_ne0 (by omega) (by omega)), fun _ => ?_⟩
        have := w1 _ f6
        rw [ec_all_1 z] at this
        refine this p6 ?_ w6
        rw [eb_I_sI']
        unfold ec_told
        show _ = nI (if j = _ then 0 else _)
        rw [if_neg (by omega)]
end EBALL

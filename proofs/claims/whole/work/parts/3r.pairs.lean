section EBPAIRS3
variable {L : Nat} {xs : Nat → Int32}
theorem ec_bn : ¬ (19 = 15 ∨ 19 = 16) := by omega
/-- before, where a deed has been done with now -/
theorem ec_bef {P : Nat → Prop} {h1 h2 : eb_H} {s : eb_St} (F : ec_gf P h1 h2) (z : ∀ c, P c → ec_19 c ∨ c = s_now ∨ c = s_now + 524807) (pb : PXS h1 s_before s) : PXS h2 s_before s := by
  refine pb.gr F (fun y => ?_) (fun y => ?_)
  · rcases z _ y with q | q | q
    · exact ec_before.1.n19.1 q
    · exact absurd q (by decide)
    · exact absurd q (by decide)
  · rcases z _ y with q | q | q
    · exact ec_before.1.n19.2 q
    · exact absurd q (by decide)
    · exact absurd q (by decide)
theorem ec_dn (c : Nat) (z : ec_da s_now c) : ec_sn c := by
  rcases z with z | z | z
  · exact Or.inl (Or.inl z)
  · rw [z]; exact Or.inr (by unfold eb_ix s_now; omega)
  · rw [z]; exact Or.inr (by unfold eb_ix s_now; omega)
/-- the class does one deed that a number tells -/
theorem C_da {d : Nat} {h : eb_H} {Q : Option Value → eb_H → Prop} {w : eb_Wo} (p : PX w h) (ok : eb_okW w) (ko : eb_KO h) (n : Nat) (hn : n < 2 ^ 31) (hd : ec_dw w.va w.now n = 0) (q : ∀ h', eb_fx h h' → PX (w.setNP (ec_ds w.va w.now n) ((w.now :: w.past).take 10)) h' → PXS h' s_now (ec_ds w.va w.now n) → Q (some (.int 1)) h') : eb_Ct (d + 7) 139 [.ref s_EB, .int (nI n)] h Q := by
  obtain ⟨v, ev, pv⟩ := p.va
  refine T_X10_doAlone _ ko (C_before p ko (fun h1 pb G => ⟨rfl, G.ko ko, v, by rw [G.R]; exact ev, pv.1.1, ?_⟩))
  rw [nI_l hn]
  have xn : ec_xn (lN n) = n := ec_xn_lN (by omega)
  refine C_dd (pv.gr G ec_sc_V) (p.now.gr G ec_nowS.2.1 ec_nowS.2.2.1) ec_nowS.1 ec_nowS.2.2.2 ok.va ok.now (lN n) (G.ko ko) (fun h' F z => ?_) (fun h' z ps F => ⟨_, rfl, (G.trans (F.gr.weak (P' := fun c => True) (fun _ _ => trivial) |>.weak (fun _ _ => trivial) |> fun _ => ec_gf.rfl (P := ec_sc) (h := h1))).ko ko |> fun _ => F.ko (G.ko ko), fun _ => ?_, fun y => absurd rfl y⟩)
  · rw [xn] at z
    exact absurd hd z
  · rw [xn] at ps
    refine X_rem p ok ko ((G.weak (fun c z => Or.inl z)).trans (F.gr.weak ec_dn)) _ (ec_bef F.gr (fun c z => z) pb) ps (fun h3 a b c => ⟨rfl, a.1, q h3 a b c⟩)
/-- the reference notes -/
theorem M_rem {d : Nat} {h : eb_H} {Q : Option Value → eb_H → Prop} {w : eb_Wo} (s : eb_St) (os : eb_okS w.va s) (p : PM (w.setNP s w.past) h) (ok : eb_okW w) (hw : ∀ q, q < 21 → eb_I h s_m_was q = ec_rw w.now q) (ko : eb_KO h) (q : ∀ h', eb_fm h h' → PM (w.setNP s ((w.now :: w.past).take 10)) h' → PMS h' 31 s → eb_I h' s_m_was = eb_I h s_m_was → Q none h') : eb_Ct d 208 [.ref s_MO] h Q := by
  have ok1 : eb_okW (w.setNP s w.past) := ok.setNP s w.past os ok.len (fun i hi => by
    have := ok.past i hi
    rw [ec_getD hi w.now ec_s0] at this
    exact this)
  refine M_notes ko w.now w.past ok.len p.size p.pp hw (fun h' F a b c => ?_)
  have pn : PMS h' 31 s := by
    have := p.now
    rw [PMS_rw] at this ⊢
    intro q hq
    rw [a _ (by omega)]
    exact this q hq
  refine q h' (F.fm ko (fun c z => by rw [z]; unfold eb_isM eb_ix s_m_all; omega)) (p.setNP ok1 s _ (fun c z => F.2.2 c (by rcases z with rfl | rfl | rfl | rfl | rfl <;> decide)) F.2.1 (fun q hq => a q (by omega)) pn b c) pn (F.2.2 _ (by decide))
/-- now changed in the reference's row -/
theorem PM.now1 {h h' : eb_H} {w : eb_Wo} (p : PM w h) (ok : eb_okW w) (s : eb_St) (F : ec_fr (fun c => ec_mw c ∨ c = s_m_all ∨ c = s_m_was) h h') (a : ∀ q, (q < 31 ∨ 52 ≤ q) → eb_I h' s_m_all q = eb_I h s_m_all q) (pn : PMS h' 31 s) : PM (w.setNP s w.past) h' := by
  have hl := ok.len
  refine p.setNP ok s w.past (fun c z => F.2.2 c (by unfold ec_mw; rcases z with rfl | rfl | rfl | rfl | rfl <;> decide)) F.2.1 (fun q hq => a q (by omega)) pn ((a 52 (by omega)).trans p.size) (fun i hi => ?_)
  have := p.pp i hi
  rw [PMS_rw] at this ⊢
  intro q hq
  rw [a _ (by omega)]
  exact this q hq
theorem ec_mw3 (c : Nat) (z : ec_mw c ∨ c = s_m_all ∨ c = s_m_was) : eb_isM c := by
  rcases z with z | rfl | rfl
  · exact ec_mw_isM c z
  · unfold eb_isM eb_ix s_m_all; omega
  · unfold eb_isM eb_ix s_m_was; omega
theorem M_keep {d : Nat} {h : eb_H} {Q : Option Value → eb_H → Prop} {w : eb_Wo} (p : PM w h) (ko : eb_KO h) (q : ∀ h', ec_fr (fun c => c = s_m_was) h h' → PM w h' → (∀ q, q < 21 → eb_I h' s_m_was q = ec_rw w.now q) → Q none h') : eb_Ct d 206 [.ref s_MO] h Q := by
  refine M_keeps ko (fun h' F a => q h' F (p.fr F (by decide) (fun c z => by rcases z with rfl | rfl | rfl | rfl | rfl <;> decide)) (fun j hj => ?_))
  rw [a j hj]
  exact PMS_rw.mp p.now j hj
/-- 9: fly -/
theorem c_fly (k : Nat) (h : eb_H) (v1 : Int32) (inv : eb_Inv L xs k h) : eb_Pr 103 212 [.int v1] (eb_Inv L xs (k + 1)) h := by
  refine eb_pr inv (fun w ok => ?_)
  by_cases hx : 0 ≤ v1.toInt ∧ v1.toInt < 4
  · obtain ⟨way, hw, rfl⟩ := ec_4 hx
    obtain ⟨n1, n2, n3, n4, n5, n6, n7⟩ := ok.now.N ok.va
    obtain ⟨r1, r2, r3, r4, r5, r6, r7, r8, r9, r10, _⟩ := ok.va.RW
    by_cases hy : ec_why w.va w.now w.now.D w.now.b w.now.e way = 0
    · obtain ⟨to, hn, hD, hm, eo⟩ := ec_out_why.1 hy
      have hto := ec_nb_lt n4 r6 hn
      have hne := ec_ne_lt (V := w.va) (s := w.now) (c := w.now.b) (e := w.now.e) (to := to) n5 (n7 to (by omega)).2
      have tl := ec_tn_le (V := w.va) (c := w.now.b) (e := w.now.e) (n7 to (by omega)).2
      have of := ec_fl_ok ok.va ok.now hto
      refine ⟨nI (ec_tn w.va w.now w.now.b w.now.e to), w.setNP (ec_fl w.va w.now to) ((w.now :: w.past).take 10), ok.setN1 _ of, by show w.fed ≤ _; omega, eb_XS.of (fun h ko p Q q => ?_), eb_MS.of (fun h g ko eg kog p Q q => ?_)⟩
      · obtain ⟨v, ev, pv⟩ := p.va
        refine T_X10_fly (d := 1298) _ ko (C_before (d := 1297) p ko (fun h1 pb G => ⟨rfl, G.ko ko, v, by rw [G.R]; exact ev, pv.1.1, ?_⟩))
        refine C_ms (d := 1293) (pv.gr G ec_sc_V) (p.now.gr G ec_nowS.2.1 ec_nowS.2.2.1) ec_nowS.1 ec_nowS.2.2.2 ok.va ok.now way hw (G.ko ko) (fun h' F z => ?_) (fun h' to' hn' _ _ _ ps F => ⟨_, rfl, F.ko (G.ko ko), fun _ => ?_, fun y => absurd (nI_pos' (by rw [hn] at hn'; cases hn'; omega)) y⟩)
        · exfalso
          rw [eo] at z
          exact nI_pos (by omega) z
        · rw [hn] at hn'
          cases hn'
          have F2 : ec_gf (ec_da s_now) h1 h' := F.gr.weak (fun c z => by
            rcases z with z | z
            · exact Or.inl z
            · exact Or.inr (Or.inl z))
          exact X_rem (d := 1296) p ok ko ((G.weak (fun c z => Or.inl z)).trans (F2.weak ec_dn)) _ (ec_bef F2 (fun c z => z) pb) ps (fun h3 a b c => ⟨rfl, a.1, q h3 a b⟩)
      · refine T_X11_fly (d := 1298) _ ko ?_
        rw [← eg]
        refine M_now (d := 1295) p.va p.now ok.va ok.now way hw kog (fun h1 F1 => ⟨_, rfl, F1.ko kog, fun _ => ?_, fun z => absurd (by rw [hy]; rfl) z⟩)
        refine M_keep (p.mw F1) (F1.ko kog) (fun h2 F2 p2 wq => ⟨rfl, F2.ko (F1.ko kog), ?_⟩)
        have k2 := F2.ko (F1.ko kog)
        refine M_flies (d := 1295) p2.va p2.now ok.va ok.now way to hw hn k2 (fun h3 pn F3 a3 => ⟨rfl, F3.ko k2, ?_⟩)
        have F3' : ec_fr (fun c => ec_mw c ∨ c = s_m_all ∨ c = s_m_was) h2 h3 := F3.weak (fun c z => by
          rcases z with z | z
          · exact Or.inl z
          · exact Or.inr (Or.inl z))
        have p3 : PM (w.setNP (ec_fl w.va w.now to) w.past) h3 := p2.now1 ok _ F3' a3 pn
        have w3 : eb_I h3 s_m_was = eb_I h2 s_m_was := F3.2.2 _ (by unfold ec_mw; decide)
        refine M_rem _ of p3 ok (by rw [w3]; exact wq) (F3.ko k2) (fun h4 fm p4 pn4 w4 => ⟨rfl, fm.1, ?_⟩)
        have fin : eb_fm g h4 := (F1.fm kog ec_mw_isM).trans ((F2.fm (F1.ko kog) (fun c z => ec_mw3 c (Or.inr (Or.inr z)))).trans ((F3'.fm k2 ec_mw3).trans fm))
        have e32 : eb_I h4 s_m_all (32 : Int32).toNatClampNeg = nI (ec_ne w.va w.now w.now.b w.now.e to) := pn4.2.1
        have e31 : eb_I h4 s_m_all (31 : Int32).toNatClampNeg = nI to := pn4.1
        have ew1 : eb_I h4 s_m_was (1 : Int32).toNatClampNeg = nI w.now.e := by
          rw [w4, w3]
          exact (wq 1 (by omega)).trans n2
        have a34 : (34 : Int32) + nI to = nI (34 + to) := ec_9 34 to
        rw [e32, ew1, e31, a34, eb_cln (n := 34 + to) (by omega), nI_eq (by omega) (by omega)]
        have eth : eb_I h4 s_m_all (34 + to) = nI (w.now.k to) := by
          have := pn4.2.2.2.1 to (by omega)
          rw [ec_fl_th] at this
          exact this.trans (n7 to (by omega)).1
        rw [eth]
        have ww := q h4 fin p4
        refine ⟨fun z => ⟨vp_in_nI (by omega) (by omega), ?_⟩, fun z => ?_⟩
        · have : ec_tn w.va w.now w.now.b w.now.e to = w.now.k to := by
            unfold ec_tn
            rw [if_pos]
            refine Classical.byContradiction fun y => z ?_
            unfold ec_ne ec_tn
            rw [if_neg y]
            exact Nat.or_zero _
          rw [this] at ww
          exact ww
        · have : ec_tn w.va w.now w.now.b w.now.e to = 0 := by
            unfold ec_tn
            refine if_neg (fun y => ?_)
            unfold ec_ne ec_tn at z
            rw [if_pos y] at z
            have k0 : 1 ≤ w.now.k to := by
              have := y.1
              unfold ec_tk at this
              simp at this
              exact this.1.1
            have key : ∀ e, e < 64 → ∀ k, k < 7 → 1 ≤ k → e / 2 ^ (k - 1) % 2 = 0 → e ||| ec_bt k ≠ e := by decide +kernel
            exact key _ n5 _ (by have := (n7 to (by omega)).2; omega) k0 y.2 z
          rw [this] at ww
          exact ww
    · obtain ⟨b1, b2, b3⟩ := ec_out_why.2 hy
      refine ⟨-10 - nI (ec_why w.va w.now w.now.D w.now.b w.now.e way), w, ok, by omega, eb_XS.of (fun h ko p Q q => ?_), eb_MS.of (fun h g ko eg kog p Q q => ?_)⟩
      · obtain ⟨v, ev, pv⟩ := p.va
        refine T_X10_fly (d := 1298) _ ko (C_before (d := 1297) p ko (fun h1 pb G => ⟨rfl, G.ko ko, v, by rw [G.R]; exact ev, pv.1.1, ?_⟩))
        refine C_ms (d := 1293) (pv.gr G ec_sc_V) (p.now.gr G ec_nowS.2.1 ec_nowS.2.2.1) ec_nowS.1 ec_nowS.2.2.2 ok.va ok.now way hw (G.ko ko) (fun h' F z => ⟨_, rfl, F.ko (G.ko ko), fun y => ?_, fun _ => ?_⟩) (fun h' to' hn' hD' hm' eo' ps F => ?_)
        · exfalso
          rw [eb_i32] at z
          rw [eb_i32e] at y
          omega
        · have G2 := G.trans (F.gr.weak ec_19_sc)
          have e : (-10 : Int32) + ec_out w.va w.now way = -10 - nI (ec_why w.va w.now w.now.D w.now.b w.now.e way) := by
            rw [b2, Int32.sub_eq_add_neg]
          rw [e]
          exact q h' (G2.fx ko ec_sc_M) (G2.px p ec_sc_W)
        · exfalso
          apply hy
          unfold ec_why
          rw [hn']
          dsimp only
          rw [if_neg hD', if_pos hm']
      · refine T_X11_fly (d := 1298) _ ko ?_
        rw [← eg]
        exact M_now (d := 1295) p.va p.now ok.va ok.now way hw kog (fun h' F => ⟨_, rfl, F.ko kog, fun z => absurd z (nI_ne0 (by omega) (by omega)), fun _ => q h' (F.fm kog ec_mw_isM) (p.mw F)⟩)
  · refine ⟨-11, w, ok, by omega, eb_XS.of (fun h ko p Q q => ?_), eb_MS.of (fun h g ko eg kog p Q q => ?_)⟩
    · obtain ⟨v, ev, pv⟩ := p.va
      exact T_X10_fly (d := 1298) _ ko (C_before (d := 1297) p ko (fun h2 pt G => ⟨rfl, G.ko ko, v, by rw [G.R]; exact ev, pv.1.1, C_ms1 (d := 1296) pv.1.1 (by decide) v1 hx (G.ko ko) ⟨_, rfl, G.ko ko, fun y => absurd y (by decide), fun _ => q h2 (G.fx ko ec_sc_M) (G.px p ec_sc_W)⟩⟩))
    · refine T_X11_fly (d := 1298) _ ko ?_
      rw [← eg]
      exact M_now1 (d := 1295) v1 hx kog ⟨_, rfl, kog, fun z => absurd z (by decide), fun _ => q g (eb_fm.rfl kog) p⟩
end EBPAIRS3

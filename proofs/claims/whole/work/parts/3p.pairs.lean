section EBPAIRS
variable {L : Nat} {xs : Nat → Int32}
/-- nothing made, no reference changed, only cells of P -/
def ec_gf (P : Nat → Prop) (h h' : eb_H) : Prop := eb_nz h h' ∧ eb_same (fun c => ¬ P c) h h'
theorem ec_fr.gr {P : Nat → Prop} {h h' : eb_H} (f : ec_fr P h h') : ec_gf P h h' := ⟨f.1, f.same (fun _ z => z)⟩
theorem ec_gf.rfl {P : Nat → Prop} {h : eb_H} : ec_gf P h h := ⟨eb_nz.rfl, eb_same.rfl⟩
theorem ec_gf.trans {P : Nat → Prop} {h h1 h2 : eb_H} (a : ec_gf P h h1) (b : ec_gf P h1 h2) : ec_gf P h h2 := ⟨a.1.trans b.1, a.2.trans b.2⟩
theorem ec_gf.weak {P P' : Nat → Prop} {h h1 : eb_H} (a : ec_gf P h h1) (z : ∀ c, P c → P' c) : ec_gf P' h h1 := ⟨a.1, a.2.weak (fun c q y => q (z c y))⟩
theorem ec_gf.ko {P : Nat → Prop} {h h1 : eb_H} (a : ec_gf P h h1) (ko : eb_KO h) : eb_KO h1 := a.1.ko ko
theorem ec_gf.R {P : Nat → Prop} {h h1 : eb_H} (a : ec_gf P h h1) : eb_R h1 = eb_R h := a.1.2.2.2.2
theorem ec_gf.at {P : Nat → Prop} {h h1 : eb_H} (a : ec_gf P h h1) {c : Nat} (z : ¬ P c) : eb_I h1 c = eb_I h c := (a.2 c z).1
theorem ec_gf.fx {P : Nat → Prop} {h h1 : eb_H} (a : ec_gf P h h1) (ko : eb_KO h) (z : ∀ c, P c → ¬ ec_isM c) : eb_fx h h1 := eb_fx.of ko a.1 (a.2.weak (fun c q y => z c y q))
theorem ec_gf.px {P : Nat → Prop} {h h1 : eb_H} {w : eb_Wo} (a : ec_gf P h h1) (p : PX w h) (z : ∀ c, P c → ¬ eb_isW c) : PX w h1 := by
  refine p.mv (a.2.weak (fun c q y => z c y q)) ?_
  unfold eb_two
  rw [a.R]
  exact p.two
theorem PXS.gr {P : Nat → Prop} {h h' : eb_H} {a : Nat} {s : eb_St} (p : PXS h a s) (f : ec_gf P h h') (a1 : ¬ P a) (a2 : ¬ P (a + 524807)) : PXS h' a s := p.mv (f.at a1) (by rw [f.R]) (f.at a2)
theorem PXV.gr {P : Nat → Prop} {h h' : eb_H} {v : Nat} {V : eb_Va} (p : PXV h v V) (f : ec_gf P h h') (z : ∀ c, P c → ¬ eb_isV c) : PXV h' v V := p.mv (f.2.weak (fun c q y => z c y q))
/-- scratch: a law's rows, before, trial -/
def ec_sc (c : Nat) : Prop := ec_19 c ∨ (17 ≤ eb_ix c ∧ eb_ix c ≤ 20)
theorem ec_sc_W (c : Nat) (z : ec_sc c) : ¬ eb_isW c := by
  unfold ec_sc ec_19 at z
  unfold eb_isW
  omega
theorem ec_sc_V (c : Nat) (z : ec_sc c) : ¬ eb_isV c := by
  unfold ec_sc ec_19 at z
  unfold eb_isV
  omega
theorem ec_sc_M (c : Nat) (z : ec_sc c) : ¬ ec_isM c := by
  unfold ec_sc ec_19 at z
  unfold ec_isM eb_isM
  omega
theorem ec_19_sc (c : Nat) (z : ec_19 c) : ec_sc c := Or.inl z
theorem ec_trial : eb_isS s_trial ∧ ec_sc s_trial ∧ ec_sc (s_trial + 524807) ∧ ¬ eb_isV s_trial := by
  unfold eb_isS ec_sc eb_isV eb_kd eb_ln eb_ix s_trial; omega
theorem ec_before : eb_isS s_before ∧ ec_sc s_before ∧ ec_sc (s_before + 524807) ∧ ¬ eb_isV s_before := by
  unfold eb_isS ec_sc eb_isV eb_kd eb_ln eb_ix s_before; omega
theorem ec_nowS : eb_isS s_now ∧ ¬ ec_sc s_now ∧ ¬ ec_sc (s_now + 524807) ∧ ¬ eb_isV s_now := by
  unfold eb_isS ec_sc ec_19 eb_isV eb_kd eb_ln eb_ix s_now; omega
theorem C_bec {d : Nat} {h : eb_H} {Q : Option Value → eb_H → Prop} (a0 a1 : Nat) (s : eb_St) (k0 : eb_isS a0) (k1 : eb_isS a1) (ne : a1 ≠ a0) (r0 : eb_R h a0 5 = some (a0 + 524807)) (p : PXS h a1 s) (ko : eb_KO h) (w : ∀ h', PXS h' a0 s → ec_gf (fun c => c = a0 ∨ c = a0 + 524807) h h' → Q none h') : eb_Ct (d + 1) 60 [.ref a0, .ref a1] h Q :=
  C_become a0 a1 s k0 k1 ne r0 p ko (fun h' a b c => w h' a ⟨b, c.weak (fun c z => ⟨fun y => z (Or.inl y), fun y => z (Or.inr y)⟩)⟩)
/-- trial becomes now -/
theorem C_trial {d : Nat} {h : eb_H} {Q : Option Value → eb_H → Prop} {w : eb_Wo} (p : PX w h) (ko : eb_KO h) (q : ∀ h', PXS h' s_trial w.now → ec_gf ec_sc h h' → Q none h') : eb_Ct (d + 1) 60 [.ref s_trial, .ref s_now] h Q :=
  C_bec s_trial s_now w.now ec_trial.1 ec_nowS.1 (by decide) (ko_s_trial_5 ko) p.now ko (fun h' a b => q h' a (b.weak (fun c z => by
    rcases z with rfl | rfl
    · exact ec_trial.2.1
    · exact ec_trial.2.2.1)))
theorem C_before {d : Nat} {h : eb_H} {Q : Option Value → eb_H → Prop} {w : eb_Wo} (p : PX w h) (ko : eb_KO h) (q : ∀ h', PXS h' s_before w.now → ec_gf ec_sc h h' → Q none h') : eb_Ct (d + 1) 60 [.ref s_before, .ref s_now] h Q :=
  C_bec s_before s_now w.now ec_before.1 ec_nowS.1 (by decide) (ko_s_before_5 ko) p.now ko (fun h' a b => q h' a (b.weak (fun c z => by
    rcases z with rfl | rfl
    · exact ec_before.2.1
    · exact ec_before.2.2.1)))
theorem C_so1 {d : Nat} {h : eb_H} {Q : Option Value → eb_H → Prop} {v a : Nat} (kv : eb_kd v = 9) (ka : eb_kd a = 6) (x : Int32) (hx : ¬ (0 ≤ x.toInt ∧ x.toInt < 4)) (ko : eb_KO h) (w : Q (some (.int (-1))) h) : eb_Ct (d + 1) 89 [.ref v, .ref a, .int x] h Q := by
  refine T_X9_stepOutcome v a x kv ka ko ⟨fun _ => w, fun z => ⟨fun y => ?_, fun _ => w⟩⟩
  exfalso
  rw [eb_i32, eb_z32] at z
  rw [eb_i32, eb_c4] at y
  omega
theorem C_ms1 {d : Nat} {h : eb_H} {Q : Option Value → eb_H → Prop} {v a : Nat} (kv : eb_kd v = 9) (ka : eb_kd a = 6) (x : Int32) (hx : ¬ (0 ≤ x.toInt ∧ x.toInt < 4)) (ko : eb_KO h) (w : Q (some (.int (-1))) h) : eb_Ct (d + 2) 90 [.ref v, .ref a, .int x] h Q :=
  T_X9_makeStep v a x kv ka ko (C_so1 kv ka x hx ko ⟨_, rfl, ko, fun z => absurd z (by decide), fun _ => w⟩)
theorem ec_4 {x : Int32} (h : 0 ≤ x.toInt ∧ x.toInt < 4) : ∃ way, way < 4 ∧ x = nI way := ⟨x.toInt.toNat, by omega, eb_ofn h.1⟩
/-- 7: why -/
theorem c_why (k : Nat) (h : eb_H) (v1 : Int32) (inv : eb_Inv L xs k h) : eb_Pr 101 204 [.int v1] (eb_Inv L xs (k + 1)) h := by
  refine eb_pr inv (fun w ok => ?_)
  by_cases hx : 0 ≤ v1.toInt ∧ v1.toInt < 4
  · obtain ⟨way, hw, rfl⟩ := ec_4 hx
    refine ⟨nI (ec_why w.va w.now w.now.D w.now.b w.now.e way), w, ok, by omega, eb_XS.of (fun h ko p Q q => ?_), eb_MS.of (fun h g ko eg kog p Q q => ?_)⟩
    · obtain ⟨v, ev, pv⟩ := p.va
      refine T_X10_why (d := 1298) _ ko ⟨v, ev, pv.1.1, C_so (d := 1294) pv p.now ec_nowS.1 ok.va ok.now way hw ko (fun h' F => ⟨_, rfl, F.ko ko, ?_⟩)⟩
      have key : (if (0 : Int32) < -(ec_out w.va w.now way) then -(ec_out w.va w.now way) else 0 : Int32) = nI (ec_why w.va w.now w.now.D w.now.b w.now.e way) := by
        by_cases z : ec_why w.va w.now w.now.D w.now.b w.now.e way = 0
        · obtain ⟨to, hn, _, _, eo⟩ := ec_out_why.1 z
          obtain ⟨n1, n2, n3, n4, n5, n6, n7⟩ := ok.now.N ok.va
          have hto := ec_nb_lt n4 ok.va.RW.2.2.2.2.2.1 hn
          have r10 := ok.va.RW.2.2.2.2.2.2.2.2.2.1
          have tl := ec_tn_le (V := w.va) (c := w.now.b) (e := w.now.e) (n7 to (by omega)).2
          rw [eo, ec_negp _ (by omega), z]
          rfl
        · obtain ⟨b1, b2, _⟩ := ec_out_why.2 z
          rw [b2, ec_neg _ b1]
      rw [key]
      exact q h' (F.gr.fx ko (fun c z => ec_sc_M c (Or.inl z))) (F.gr.px p (fun c z => ec_sc_W c (Or.inl z)))
    · refine T_X11_why (d := 1298) _ ko ?_
      rw [← eg]
      exact M_now (d := 1295) p.va p.now ok.va ok.now way hw kog (fun h' F => ⟨_, rfl, F.ko kog, q h' (F.fm kog ec_mw_isM) (p.mw F)⟩)
  · refine ⟨1, w, ok, by omega, eb_XS.of (fun h ko p Q q => ?_), eb_MS.of (fun h g ko eg kog p Q q => ?_)⟩
    · obtain ⟨v, ev, pv⟩ := p.va
      exact T_X10_why (d := 1298) _ ko ⟨v, ev, pv.1.1, C_so1 (d := 1297) pv.1.1 (by decide) v1 hx ko ⟨_, rfl, ko, q h (eb_fx.rfl ko) p⟩⟩
    · refine T_X11_why (d := 1298) _ ko ?_
      rw [← eg]
      exact M_now1 (d := 1295) v1 hx kog ⟨_, rfl, kog, q g (eb_fm.rfl kog) p⟩
end EBPAIRS

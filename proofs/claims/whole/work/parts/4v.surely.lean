section EBSURELY
variable {L : Nat} {xs : Nat → Int32}
/-- the cells that all flights of n steps that end there came into -/
noncomputable def ed_sl (w : eb_Wo) (t n : Nat) : Nat := ec_bsn (fun i => ¬ ec_wk (ed_nxb w (nI i)) (fun m => m = t) n (64 * w.now.b + w.now.e)) 16
theorem ed_fyS {w : eb_Wo} (ok : eb_okW w) (n : Nat) (t : Nat) (ht : t < 64 * (w.va.R * w.va.W)) : (ed_fy w 3 false n (ec_cd t) = -1 ∧ ¬ ec_wk (ed_nxb w (-1)) (fun m => m = t) n (64 * w.now.b + w.now.e)) ∨ (ec_wk (ed_nxb w (-1)) (fun m => m = t) n (64 * w.now.b + w.now.e) ∧ ed_fy w 3 false n (ec_cd t) = lN (ed_sl w t n)) := by
  have r10 := ok.va.RW.2.2.2.2.2.2.2.2.2.1
  obtain ⟨n1, n2, n3, n4, n5, n6, n7⟩ := ok.now.N ok.va
  have e0 : ed_non 3 = -1 := by decide
  have e1 : ed_sta 3 = 0 := by decide
  have V := ed_it_sure (nx := ed_nxc w.va w.now w.now.D false) (P := fun q => q < 1024 ∧ q % 16 < w.va.R * w.va.W) (ed_s0P ok) (fun q h => h.1) (fun q y t pq h => ed_nxcP ok pq h) n
  have eE : ed_E (ed_nxc w.va w.now w.now.D false) (ec_cd (64 * w.now.b + w.now.e)) n (ec_cd t) ↔ ec_wk (ed_nxb w (-1)) (fun m => m = t) n (64 * w.now.b + w.now.e) := by
    rw [ed_E_wk]
    exact ed_wk_mp (ed_inj ok) (ed_mp1 ok) (fun s y m hs g => ed_nxb_lt ok hs g) ht (by omega)
  have eI : ∀ i, i < 16 → (ed_E (ed_av (ed_nxc w.va w.now w.now.D false) i) (ec_cd (64 * w.now.b + w.now.e)) n (ec_cd t) ↔ ec_wk (ed_nxb w (nI i)) (fun m => m = t) n (64 * w.now.b + w.now.e)) := fun i hi => by
    rw [ed_E_wk]
    exact ed_wk_mp (ed_inj ok) (fun s y hs => ed_av_m ok hi hs) (fun s y m hs g => ed_nxb_lt ok hs g) ht (by omega)
  unfold ed_fy
  rw [e0, e1]
  rcases V (ec_cd t) (ec_cd_lt (by omega)) with ⟨a, b⟩ | ⟨a, S, b, c, d⟩
  · exact Or.inl ⟨a, fun z => b (eE.mpr z)⟩
  · refine Or.inr ⟨eE.mp a, ?_⟩
    rw [c]
    congr 1
    refine ec_bsn_u b (fun i hi => ?_)
    rw [d i hi]
    show ¬ ed_E (ed_av (ed_nxc w.va w.now w.now.D false) i) (ec_cd (64 * w.now.b + w.now.e)) n (ec_cd t) ↔ _
    rw [eI i hi]
/-- 30: surely -/
theorem c_surely (k : Nat) (h : eb_H) (v1 v2 v3 : Int32) (inv : eb_Inv L xs k h) : eb_Pr 124 253 [.int v1, .int v2, .int v3] (eb_Inv L xs (k + 1)) h := by
  refine eb_pr2 inv (fun w ok => ?_)
  obtain ⟨r1, r2, r3, r4, r5, r6, r7, r8, r9, r10, _⟩ := ok.va.RW
  obtain ⟨n1, n2, n3, n4, n5, n6, n7⟩ := ok.now.N ok.va
  have same2 : ∀ z : Int32, ∀ y w', (w' = w ∧ y = z) → eb_okW w' ∧ w'.fed ≤ w.fed + 20 := by
    rintro z y w' ⟨rfl, _⟩
    exact ⟨ok, by omega⟩
  by_cases hC : ec_okC w v2
  · by_cases hM : ed_okM v1 v3
    · obtain ⟨n, c, e, ⟨hn, rfl⟩, ⟨hc, rfl⟩, ⟨he, rfl⟩⟩ := ed_numm hC hM
      have ht : 64 * c + e < 64 * (w.va.R * w.va.W) := by omega
      have sl := ec_bsn_lt (fun i => ¬ ec_wk (ed_nxb w (nI i)) (fun m => m = 64 * c + e) n (64 * w.now.b + w.now.e)) 16
      refine ⟨fun y w' => w' = w ∧ ((y = 0 ∧ ¬ ec_wk (ed_nxb w (-1)) (fun m => m = 64 * c + e) n (64 * w.now.b + w.now.e)) ∨ (ec_wk (ed_nxb w (-1)) (fun m => m = 64 * c + e) n (64 * w.now.b + w.now.e) ∧ y = nI (ed_sl w (64 * c + e) n))), ?_, fun h ko p => ?_, ?_⟩
      · rintro y w' ⟨rfl, _⟩
        exact ⟨ok, by omega⟩
      · refine T_X10_surely (d := 1297) _ _ _ ko (C_cm (d := 1297) p ok _ _ _ ko (fun _ _ => ⟨_, rfl, ko, fun _ => ?_, fun z => absurd rfl z⟩) (fun _ z => absurd hM z) (fun z => absurd hC z))
        obtain ⟨v, ev, pv⟩ := p.va
        refine ⟨v, ev, pv.1.1, C_fa (d := 1292) p ko ok n (by omega) 3 false (by decide) v ev (fun h' r ff hr hJ => ⟨rfl, ff.1, ?_⟩)⟩
        rw [ed_code, eb_cln (n := 16 * e + c) (by omega)]
        refine ⟨fun z => absurd ⟨nI_pos (by omega), nI_ge (a := 16 * e + c) (b := 1024) (by omega) (by omega)⟩ z, fun _ => ⟨r, hr.1, hr.2.1, by rw [hr.2.2]; exact vp_in_nI (by omega) (by omega), ?_⟩⟩
        rw [hJ _ (by omega), ← ed_codeq he]
        rcases ed_fyS ok n (64 * c + e) ht with ⟨a, b⟩ | ⟨b, a⟩
        · rw [a, if_pos rfl]
          exact ⟨_, w, rfl, ff.fx, ff.px p, rfl, Or.inl ⟨rfl, b⟩⟩
        · have sl' : ed_sl w (64 * c + e) n < 2 ^ 31 := Nat.lt_of_lt_of_le sl (by decide)
          rw [a, if_neg (ed_ne1 sl'), lN_i]
          exact ⟨_, w, rfl, ff.fx, ff.px p, rfl, Or.inr ⟨b, rfl⟩⟩
      · rintro y w' ⟨rfl, alt⟩
        refine eb_MS.of (fun h g ko eg kog p Q q => ?_)
        refine T_X11_surely (d := 1298) _ _ _ ko ?_
        rw [← eg]
        refine M_cm (d := 1296) p ok _ _ _ kog (fun _ _ => ⟨_, rfl, kog, fun _ => ?_, fun z => absurd rfl z⟩) (fun _ z => absurd hM z) (fun z => absurd hC z)
        refine M_lc (d := 1294) p ok kog n (by omega) c e hc he (-1) (fun g' F th sT => ⟨_, rfl, F.ko kog, ?_⟩)
        rw [ed_l0 (ed_Mn_le10 (by omega)), ed_Mn_wk]
        rcases alt with ⟨rfl, no⟩ | ⟨yes, rfl⟩
        · exact ⟨fun z => absurd no z, fun _ => q g' (F.fm kog) (F.pm p)⟩
        · refine ⟨fun _ => ?_, fun z => absurd yes z⟩
          have key : ∀ (m k R : Nat) (g2 : eb_H), k + m = w'.va.R * w'.va.W → R < 2 ^ 16 → (∀ i, i < 16 → (R.testBit i = true ↔ i < k ∧ ¬ ec_wk (ed_nxb w' (nI i)) (fun m => m = 64 * c + e) n (64 * w'.now.b + w'.now.e))) → ed_fh g g2 → eb_Sn 1299 m_X11_surely h 44 [(0, .ref s_MO), (1, .int (nI n)), (2, .int (nI c)), (3, .int (nI e)), (5, .int (nI R)), (6, .int (nI k))] [] g2 Q := by
            intro m
            induction m with
            | zero =>
              intro k R g2 hk hR bits F2
              have pg := F2.pm p
              have eR : eb_I g2 s_m_all (1 : Int32).toNatClampNeg = nI w'.va.R := pg.va.2.1.trans r1
              have eW : eb_I g2 s_m_all (2 : Int32).toNatClampNeg = nI w'.va.W := pg.va.2.2.1.trans r2
              refine b_X11_surely_44 (d := 1298) _ _ _ _ _ (F2.ko kog) ?_
              rw [eR, eW, pk_mul]
              refine ⟨fun _ => ?_, fun z => absurd (nI_le (by omega) (by omega)) z⟩
              rw [ec_bsn_u (P := fun i => ¬ ec_wk (ed_nxb w' (nI i)) (fun m => m = 64 * c + e) n (64 * w'.now.b + w'.now.e)) hR (fun i hi => ?_)]
              · exact q g2 (F2.fm kog) pg
              · rw [bits i hi]
                refine ⟨fun z => z.2, fun z => ⟨?_, z⟩⟩
                refine Classical.byContradiction fun u => z ?_
                have nn : ∀ c', c' < w'.va.R * w'.va.W → ¬ nI c' = nI i := fun c' hc' e => by
                  rw [nI_eq (by omega) (by omega)] at e
                  omega
                refine (ed_wk_cg (N := 64 * (w'.va.R * w'.va.W)) (fun s y hs => ?_) (fun s y m hs g => ed_nxb_lt ok hs g) n _ (by omega)).mpr yes
                rw [ed_nxb_c ok nn hs, ed_nxb_c ok (ed_nm1 ok) hs]
            | succ m ih =>
              intro k R g2 hk hR bits F2
              have pg := F2.pm p
              have p16 : (2 : Nat) ^ k < 2 ^ 16 := wb_lt2 (by omega)
              have eR : eb_I g2 s_m_all (1 : Int32).toNatClampNeg = nI w'.va.R := pg.va.2.1.trans r1
              have eW : eb_I g2 s_m_all (2 : Int32).toNatClampNeg = nI w'.va.W := pg.va.2.2.1.trans r2
              refine b_X11_surely_44 (d := 1298) _ _ _ _ _ (F2.ko kog) ?_
              rw [eR, eW, pk_mul, ec_shl1 (by omega), nI_1]
              refine ⟨fun z => absurd z (nI_ge (by omega) (by omega)), fun _ => ?_⟩
              refine M_lc (d := 1294) pg ok (F2.ko kog) n (by omega) c e hc he (nI k) (fun g3 F3 _ _ => ⟨_, rfl, F3.ko (F2.ko kog), ?_⟩)
              have ez := ed_l0 (ed_Mn_le10 (nx := ed_nxb w' (nI k)) (t := 64 * c + e) (j := n) (s := 64 * w'.now.b + w'.now.e) (by omega))
              rw [ed_Mn_wk] at ez
              by_cases z : ec_wk (ed_nxb w' (nI k)) (fun m => m = 64 * c + e) n (64 * w'.now.b + w'.now.e)
              · rw [if_neg (fun u => (ez.mp u) z), Int32.or_zero]
                refine ih (k + 1) R g3 (by omega) hR (fun i hi => ?_) (F2.trans F3)
                rw [bits i hi]
                constructor
                · rintro ⟨x1, x2⟩; exact ⟨by omega, x2⟩
                · rintro ⟨x1, x2⟩
                  refine ⟨?_, x2⟩
                  have : i ≠ k := fun e => x2 (by rw [e]; exact z)
                  omega
              · rw [if_pos (ez.mpr z), ec_or (by omega) (by omega)]
                refine ih (k + 1) (R ||| 2 ^ k) g3 (by omega) (Nat.or_lt_two_pow hR p16) (fun i hi => ?_) (F2.trans F3)
                rw [Nat.testBit_or, Nat.testBit_two_pow, Bool.or_eq_true, bits i hi, decide_eq_true_iff]
                constructor
                · rintro (⟨x1, x2⟩ | x)
                  · exact ⟨by omega, x2⟩
                  · rw [← x]; exact ⟨by omega, z⟩
                · rintro ⟨x1, x2⟩
                  by_cases e : k = i
                  · exact Or.inr e
                  · exact Or.inl ⟨by omega, x2⟩
          exact key _ 0 0 g' (Nat.zero_add _) (by omega) (fun i hi => by
            rw [Nat.zero_testBit]
            constructor
            · intro z; cases z
            · rintro ⟨x, _⟩; omega) F
    · refine ⟨fun y w' => w' = w ∧ y = -3, same2 _, fun h ko p => ?_, ?_⟩
      · exact T_X10_surely (d := 1297) _ _ _ ko (C_cm (d := 1297) p ok _ _ _ ko (fun _ z => absurd z hM) (fun _ _ => ⟨_, rfl, ko, fun z => absurd z (by decide), fun _ => ⟨_, w, rfl, eb_fx.rfl ko, p, rfl, rfl⟩⟩) (fun z => absurd hC z))
      · rintro y w' ⟨rfl, rfl⟩
        refine eb_MS.of (fun h g ko eg kog p Q q => ?_)
        refine T_X11_surely (d := 1298) _ _ _ ko ?_
        rw [← eg]
        exact M_cm (d := 1296) p ok _ _ _ kog (fun _ z => absurd z hM) (fun _ _ => ⟨_, rfl, kog, fun z => absurd z (by decide), fun _ => q g (eb_fm.rfl kog) p⟩) (fun z => absurd hC z)
  · refine ⟨fun y w' => w' = w ∧ y = -2, same2 _, fun h ko p => ?_, ?_⟩
    · exact T_X10_surely (d := 1297) _ _ _ ko (C_cm (d := 1297) p ok _ _ _ ko (fun z _ => absurd z hC) (fun z _ => absurd z hC) (fun _ => ⟨_, rfl, ko, fun z => absurd z (by decide), fun _ => ⟨_, w, rfl, eb_fx.rfl ko, p, rfl, rfl⟩⟩))
    · rintro y w' ⟨rfl, rfl⟩
      refine eb_MS.of (fun h g ko eg kog p Q q => ?_)
      refine T_X11_surely (d := 1298) _ _ _ ko ?_
      rw [← eg]
      exact M_cm (d := 1296) p ok _ _ _ kog (fun z _ => absurd z hC) (fun z _ => absurd z hC) (fun _ => ⟨_, rfl, kog, fun z => absurd z (by decide), fun _ => q g (eb_fm.rfl kog) p⟩)
end EBSURELY

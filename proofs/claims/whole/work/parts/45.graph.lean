section EBGRAPH
variable {L : Nat} {xs : Nat → Int32}
/-! ===== the graph of stands: 64 for each cell, and the set ===== -/
def ec_g (V : eb_Va) (s : eb_St) (D n way : Nat) : Option Nat := if ec_why V s D (n / 64) (n % 64) way = 0 then (match ec_nb V.R V.W (n / 64) way with
  | some to => some (64 * to + ec_ne V s (n / 64) (n % 64) to)
  | none => none) else none
theorem ec_g_lt {V : eb_Va} {s : eb_St} {D n way m : Nat} (ok : eb_okV V) (os : eb_okS V s) (hn : n < 64 * (V.R * V.W)) (h : ec_g V s D n way = some m) : m < 64 * (V.R * V.W) := by
  obtain ⟨r1, r2, r3, r4, r5, r6, r7, r8, r9, r10, _⟩ := ok.RW
  obtain ⟨n1, n2, n3, n4, n5, n6, n7⟩ := os.N ok
  unfold ec_g at h
  split at h
  · cases hb : ec_nb V.R V.W (n / 64) way with
    | none => rw [hb] at h; cases h
    | some to =>
      rw [hb] at h
      cases h
      have hto := ec_nb_lt (show n / 64 < V.R * V.W by omega) r6 hb
      have := ec_ne_lt (V := V) (s := s) (c := n / 64) (e := n % 64) (to := to) (by omega) (n7 to (by omega)).2
      omega
  · cases h
theorem ec_g_0 {V : eb_Va} {s : eb_St} {D n way to : Nat} (h : ec_why V s D (n / 64) (n % 64) way = 0) (hn : ec_nb V.R V.W (n / 64) way = some to) : ec_g V s D n way = some (64 * to + ec_ne V s (n / 64) (n % 64) to) := by
  unfold ec_g
  rw [if_pos h, hn]
theorem ec_g_1 {V : eb_Va} {s : eb_St} {D n way : Nat} (h : ¬ ec_why V s D (n / 64) (n % 64) way = 0) : ec_g V s D n way = none := by
  unfold ec_g
  rw [if_neg h]
/-! the reference lays it -/
def ec_mt (c : Nat) : Prop := ec_mw c ∨ c = s_m_then
theorem ec_mt_M (c : Nat) (z : ec_mt c) : eb_isM c := by
  rcases z with z | rfl
  · exact ec_mw_isM c z
  · unfold eb_isM eb_ix s_m_then; omega
theorem PM.mt {w : eb_Wo} {h h' : eb_H} (p : PM w h) (f : ec_fr ec_mt h h') : PM w h' := p.fr f (by unfold ec_mt ec_mw; decide) (fun c z => by
  unfold ec_mt ec_mw
  rcases z with rfl | rfl | rfl | rfl | rfl <;> decide)
theorem M_then {d : Nat} {g : eb_H} {Q : Option Value → eb_H → Prop} {w : eb_Wo} (p : PM w g) (ok : eb_okW w) (kog : eb_KO g) (D : Nat) (hD : D < 65536) (q : ∀ g', ec_fr ec_mt g g' → (∀ n way, n < 64 * (w.va.R * w.va.W) → way < 4 → eb_I g' s_m_then (4 * n + way) = ec_oi (ec_g w.va w.now D n way)) → Q none g') : eb_Ct (d + 3) 227 [.ref s_MO, .int (nI D)] g Q := by
  obtain ⟨r1, r2, r3, r4, r5, r6, r7, r8, r9, r10, _⟩ := ok.va.RW
  obtain ⟨n1, n2, n3, n4, n5, n6, n7⟩ := ok.now.N ok.va
  have outer : ∀ (m n : Nat) (g' : eb_H), n + m = 64 * (w.va.R * w.va.W) → ec_fr ec_mt g g' → (∀ q, q < 4 * n → eb_I g' s_m_then q = ec_oi (ec_g w.va w.now D (q / 4) (q % 4))) → eb_Sn (d + 3) m_X11_laysThen g 2 [(0, .ref s_MO), (1, .int (nI D)), (2, .int (nI n))] [] g' Q := by
    intro m
    induction m with
    | zero =>
      intro n g' hn F a
      have pg := p.mt F
      have eR : eb_I g' s_m_all (1 : Int32).toNatClampNeg = nI w.va.R := pg.va.2.1.trans r1
      have eW : eb_I g' s_m_all (2 : Int32).toNatClampNeg = nI w.va.W := pg.va.2.2.1.trans r2
      refine b_X11_laysThen_2 (d := d + 2) _ _ (F.ko kog) ?_
      rw [eR, eW, pk_mul, show (64 : Int32) * nI (w.va.R * w.va.W) = nI (64 * (w.va.R * w.va.W)) from pk_mul 64 _]
      refine ⟨fun _ => q g' F (fun n' way hn' hw => ?_), fun z => absurd (nI_le (by omega) (by omega)) z⟩
      rw [a _ (by omega), show (4 * n' + way) / 4 = n' by omega, show (4 * n' + way) % 4 = way by omega]
    | succ m ih =>
      intro n g' hn F a
      have pg := p.mt F
      have eR : eb_I g' s_m_all (1 : Int32).toNatClampNeg = nI w.va.R := pg.va.2.1.trans r1
      have eW : eb_I g' s_m_all (2 : Int32).toNatClampNeg = nI w.va.W := pg.va.2.2.1.trans r2
      refine b_X11_laysThen_2 (d := d + 2) _ _ (F.ko kog) ?_
      rw [eR, eW, pk_mul, show (64 : Int32) * nI (w.va.R * w.va.W) = nI (64 * (w.va.R * w.va.W)) from pk_mul 64 _]
      refine ⟨fun z => absurd z (nI_ge (by omega) (by omega)), fun _ => ?_⟩
      have inner : ∀ (m2 y : Nat) (g2 : eb_H), y + m2 = 4 → ec_fr ec_mt g g2 → (∀ q, q < 4 * n + y → eb_I g2 s_m_then q = ec_oi (ec_g w.va w.now D (q / 4) (q % 4))) → eb_Sn (d + 3) m_X11_laysThen g 15 [(0, .ref s_MO), (1, .int (nI D)), (2, .int (nI n)), (3, .int (nI y))] [] g2 Q := by
        intro m2
        induction m2 with
        | zero =>
          intro y g2 hy F2 a2
          refine b_X11_laysThen_15 (d := d + 2) _ _ _ (F2.ko kog) ⟨fun _ => ?_, fun z => absurd (nI_le (a := 4) (by omega) (by omega)) z⟩
          rw [nI_1]
          exact ih (n + 1) g2 (by omega) F2 (fun q hq => a2 q (by omega))
        | succ m2 ih2 =>
          intro y g2 hy F2 a2
          have p2 := p.mt F2
          have ko2 := F2.ko kog
          have e4 : (4 : Int32) * nI n + nI y = nI (4 * n + y) := by
            rw [show (4 : Int32) * nI n = nI (4 * n) from pk_mul 4 n, nI_add]
          have en : 64 * (n / 64) + n % 64 = n := by omega
          have nxt : ∀ g4 v, ec_fr ec_mw g2 g4 → v = ec_oi (ec_g w.va w.now D n y) → eb_Sn (d + 3) m_X11_laysThen g 15 [(0, .ref s_MO), (1, .int (nI D)), (2, .int (nI n)), (3, .int (nI (y + 1)))] [] (eb_sI g4 s_m_then (4 * n + y) v) Q := by
            intro g4 v F4 hv
            refine ih2 (y + 1) _ (by omega) ((F2.trans (F4.weak (fun c z => Or.inl z))).sI (Or.inr rfl)) (fun q hq => ?_)
            rw [eb_I_sI]
            by_cases e : q = 4 * n + y
            · rw [if_pos e, e, hv, show (4 * n + y) / 4 = n by omega, show (4 * n + y) % 4 = y by omega]
            · rw [if_neg e, F4.2.2 _ (by unfold ec_mw; decide)]
              exact a2 q (by omega)
          refine b_X11_laysThen_15 (d := d + 2) _ _ _ ko2 ⟨fun z => absurd z (nI_ge (a := y) (b := 4) (by omega) (by omega)), fun _ => ?_⟩
          rw [e4, eb_cln (n := 4 * n + y) (by omega), nI_1]
          rw [show nI n = nI (64 * (n / 64) + n % 64) by rw [en]]
          refine M_whyD (by omega) p2.va p2.now ok.va ok.now D (n / 64) (n % 64) y hD (by omega) (by omega) (by omega) ko2 (fun g4 F4 => ⟨_, rfl, F4.ko ko2, fun z => ⟨vp_in_nI (by omega) (by omega), ?_⟩, fun z => ?_⟩)
          · rw [en]
            refine nxt g4 _ F4 ?_
            rw [ec_g_1 (fun u => z (by rw [u]; rfl))]
            rfl
          · have wz : ec_why w.va w.now D (n / 64) (n % 64) y = 0 := by
              refine Classical.byContradiction fun v => ?_
              exact nI_ne0 (Nat.pos_of_ne_zero v) (by have := ec_why5 (V := w.va) (s := w.now) (D := D) (c := n / 64) (e := n % 64) (way := y); omega) z
            obtain ⟨to, hnb⟩ := ec_why_nb wz
            have p4 := p2.mw F4
            refine M_stD (by omega) p4.va p4.now ok.va ok.now (n / 64) (n % 64) y to (by omega) (by omega) (by omega) hnb (F4.ko ko2) (fun g5 F5 => ⟨_, rfl, F5.ko (F4.ko ko2), vp_in_nI (by omega) (by omega), ?_⟩)
            rw [en]
            refine nxt g5 _ (F4.trans F5) ?_
            rw [ec_g_0 wz hnb]
            rfl
      exact inner 4 0 g' (by omega) F (fun q hq => a q (by omega))
  exact T_X11_laysThen (d := d + 2) _ kog (outer _ 0 g (Nat.zero_add _) ec_fr.rfl (fun q hq => absurd hq (by omega)))
/-! the class: flights begun -/
theorem C_fillB {d : Nat} {h : eb_H} {Q : Option Value → eb_H → Prop} (a : Nat) (x : Int32) (ka : eb_kd a = 12) (ko : eb_KO h) (w : ∀ g', ec_fr (fun c => c = a) h g' → (∀ i, i < eb_ln a → eb_I g' a i = x.toInt8.toInt32) → Q none g') : eb_Ct d 302 [.ref a, .int x] h Q := by
  have hl : eb_ln a < 16384 := by unfold eb_ln; omega
  have key : ∀ (m j : Nat) (g : eb_H), j + m = eb_ln a → ec_fr (fun c => c = a) h g → (∀ i, i < j → eb_I g a i = x.toInt8.toInt32) → eb_Sn d m_J7_fill_031fb h 5 [(0, .ref a), (1, .int x), (2, .int (nI j)), (3, .int (Int32.ofNat (eb_ln a)))] [] g Q := by
    intro m
    induction m with
    | zero =>
      intro j g hj F b
      exact b_J7_fill_031fb_5 a x _ _ ka (F.ko ko) ⟨fun _ => w g F (fun i hi => b i (by omega)), fun z => absurd (nI_le (a := eb_ln a) (by omega) (by omega)) z⟩
    | succ m ih =>
      intro j g hj F b
      refine b_J7_fill_031fb_5 a x _ _ ka (F.ko ko) ⟨fun z => absurd z (nI_ge (a := j) (b := eb_ln a) (by omega) (by omega)), fun _ => ⟨vp_in_nI (by omega) (by omega), ?_⟩⟩
      rw [nI_1, eb_cln (by omega)]
      refine ih (j + 1) _ (by omega) (F.sI rfl) (fun i hi => ?_)
      rw [eb_I_sI]
      by_cases e : i = j
      · rw [if_pos e]
      · rw [if_neg e]; exact b i (by omega)
  exact T_J7_fill_031fb a x ka ko (key (eb_ln a) 0 h (by omega) ec_fr.rfl (fun i hi => absurd hi (by omega)))
theorem C_fillI {d : Nat} {h : eb_H} {Q : Option Value → eb_H → Prop} (a : Nat) (x : Int32) (ka : eb_kd a = 13) (ko : eb_KO h) (w : ∀ g', ec_fr (fun c => c = a) h g' → (∀ i, i < eb_ln a → eb_I g' a i = x) → Q none g') : eb_Ct d 301 [.ref a, .int x] h Q := by
  have hl : eb_ln a < 16384 := by unfold eb_ln; omega
  have key : ∀ (m j : Nat) (g : eb_H), j + m = eb_ln a → ec_fr (fun c => c = a) h g → (∀ i, i < j → eb_I g a i = x) → eb_Sn d m_J7_fill_53178 h 5 [(0, .ref a), (1, .int x), (2, .int (nI j)), (3, .int (Int32.ofNat (eb_ln a)))] [] g Q := by
    intro m
    induction m with
    | zero =>
      intro j g hj F b
      exact b_J7_fill_53178_5 a x _ _ ka (F.ko ko) ⟨fun _ => w g F (fun i hi => b i (by omega)), fun z => absurd (nI_le (a := eb_ln a) (by omega) (by omega)) z⟩
    | succ m ih =>
      intro j g hj F b
      refine b_J7_fill_53178_5 a x _ _ ka (F.ko ko) ⟨fun z => absurd z (nI_ge (a := j) (b := eb_ln a) (by omega) (by omega)), fun _ => ⟨vp_in_nI (by omega) (by omega), ?_⟩⟩
      rw [nI_1, eb_cln (by omega)]
      refine ih (j + 1) _ (by omega) (F.sI rfl) (fun i hi => ?_)
      rw [eb_I_sI]
      by_cases e : i = j
      · rw [if_pos e]
      · rw [if_neg e]; exact b i (by omega)
  exact T_J7_fill_53178 a x ka ko (key (eb_ln a) 0 h (by omega) ec_fr.rfl (fun i hi => absurd hi (by omega)))
/-- what the flights are about: the valley, the state, the drifts; and what is known of the laws' words -/
def ec_FL (V : eb_Va) (s : eb_St) (D : Nat) (h : eb_H) : Prop := (∃ v, eb_R h s_flights 0 = some v ∧ PXV h v V) ∧ PXS h s_flights_state s ∧ eb_I h s_flights 2 = nI D ∧ ∀ l way c, l ≤ 6 → way < 4 → c < 16 → eb_I h s_flights_verdicts ((l * 4 + way) * 16 + c) = 0 ∨ ∀ e to, ec_bc e = l → ec_nb V.R V.W c way = some to → eb_I h s_flights_verdicts ((l * 4 + way) * 16 + c) = nI (ec_vd V s c e to)
def ec_fs (c : Nat) : Prop := ec_sc c ∨ (43 ≤ eb_ix c ∧ eb_ix c ≤ 54)
def ec_ff (h h' : eb_H) : Prop := eb_KO h' ∧ eb_nn h h' ∧ eb_same (fun c => ¬ ec_fs c) h h' ∧ eb_two h'
theorem ec_ff.rfl {h : eb_H} (ko : eb_KO h) (t : eb_two h) : ec_ff h h := ⟨ko, eb_nn.rfl, eb_same.rfl, t⟩
theorem ec_ff.trans {h h1 h2 : eb_H} (a : ec_ff h h1) (b : ec_ff h1 h2) : ec_ff h h2 := ⟨b.1, a.2.1.trans b.2.1, a.2.2.1.trans b.2.2.1, b.2.2.2⟩
theorem ec_ff.gf {P : Nat → Prop} {h h1 h2 : eb_H} (a : ec_ff h h1) (b : ec_gf P h1 h2) (z : ∀ c, P c → ec_fs c) : ec_ff h h2 := ⟨b.ko a.1, a.2.1.trans b.1.nn, a.2.2.1.trans (b.2.weak (fun c q y => q (z c y))), by unfold eb_two; rw [b.R]; exact a.2.2.2⟩
theorem ec_ff.fx {h h' : eb_H} (a : ec_ff h h') : eb_fx h h' := ⟨a.1, a.2.1, a.2.2.1.weak (fun c z y => by
  unfold ec_isM eb_isM at z
  unfold ec_fs ec_sc ec_19 at y
  omega)⟩
theorem ec_ff.px {w : eb_Wo} {h h' : eb_H} (a : ec_ff h h') (p : PX w h) : PX w h' := p.mv (a.2.2.1.weak (fun c z y => by
  unfold eb_isW at z
  unfold ec_fs ec_sc ec_19 at y
  omega)) a.2.2.2
theorem ec_flS : eb_isS s_flights_state ∧ ec_fs s_flights_state ∧ ec_fs (s_flights_state + 524807) := by
  unfold eb_isS ec_fs eb_kd eb_ln eb_ix s_flights_state; omega
theorem C_start {d : Nat} {h : eb_H} {Q : Option Value → eb_H → Prop} {w : eb_Wo} (p : PX w h) (ko : eb_KO h) (ok : eb_okW w) (q : ∀ v h', eb_R h s_EB 2 = some v → ec_ff h h' → ec_FL w.va w.now w.now.D h' → Q none h') : ∃ v, eb_R h s_EB 2 = some v ∧ eb_kd v = 9 ∧ eb_Ct (d + 2) 8 [.ref s_flights, .ref v, .ref s_now] h Q := by
  obtain ⟨v, ev, pv⟩ := p.va
  obtain ⟨n1, n2, n3, n4, n5, n6, n7⟩ := ok.now.N ok.va
  refine ⟨v, ev, pv.1.1, T_X1_start (d := d + 1) v s_now pv.1.1 ec_nowS.1.1 ko ?_⟩
  have ko1 : eb_KO (eb_sR h s_flights 0 (some v)) := ko_sR (by decide) ko
  have s1 : eb_same (fun c => ¬ ec_fs c) h (eb_sR h s_flights 0 (some v)) := eb_same.rfl.sR (fun z => z (by unfold ec_fs eb_ix s_flights; omega))
  have pn1 : PXS (eb_sR h s_flights 0 (some v)) s_now w.now := p.now.mv rfl (eb_R_sRn (by decide)) rfl
  have t1 : eb_two (eb_sR h s_flights 0 (some v)) := by
    have := p.two
    unfold eb_two
    rw [eb_R_sR, eb_R_sR, if_neg (by decide), if_neg (by decide)]
    exact this
  have r1 : eb_R (eb_sR h s_flights 0 (some v)) s_flights 0 = some v := by rw [eb_R_sR, if_pos rfl]
  have ff1 : ec_ff h (eb_sR h s_flights 0 (some v)) := ⟨ko1, ⟨rfl, rfl, rfl, rfl⟩, s1, t1⟩
  generalize eb_sR h s_flights 0 (some v) = g1 at *
  refine C_bec (d := d) s_flights_state s_now w.now ec_flS.1 ec_nowS.1 (by decide) (ko_s_flights_state_5 ko1) pn1 ko1 (fun h1 ps G => ⟨rfl, G.ko ko1, ?_⟩)
  have nn : ∀ c, c = s_flights_state ∨ c = s_flights_state + 524807 → ec_fs c := fun c z => by
    rcases z with rfl | rfl
    · exact ec_flS.2.1
    · exact ec_flS.2.2
  have ff2 : ec_ff h h1 := ff1.gf G nn
  have pn2 : PXS h1 s_now w.now := pn1.gr G (by decide) (by decide)
  have F3 : ec_fr (fun c => c = s_flights) h1 (eb_sI h1 s_flights 2 (eb_I h1 s_now 3)) := ec_fr.rfl.sI rfl
  have ff3 := ff2.gf F3.gr (fun c z => by rw [z]; unfold ec_fs eb_ix s_flights; omega)
  refine C_fillB s_flights_verdicts 0 (by decide) ff3.1 (fun h4 F4 b4 => ⟨rfl, F4.ko ff3.1, ?_⟩)
  have ff4 := ff3.gf F4.gr (fun c z => by rw [z]; unfold ec_fs eb_ix s_flights_verdicts; omega)
  refine q v h4 ev ff4 ⟨⟨v, ?_, ?_⟩, ?_, ?_, ?_⟩
  · rw [F4.R, eb_R_sI, G.R]; exact r1
  · refine pv.mv (ff4.2.2.1.weak (fun c z y => ?_))
    unfold eb_isV at z
    unfold ec_fs ec_sc ec_19 at y
    omega
  · exact (ps.gr F3.gr (by decide) (by decide)).gr F4.gr (by decide) (by decide)
  · rw [F4.2.2 _ (by decide), eb_I_sI', pn2.2.2.2.1]
    exact n3
  · intro l way c hl hw hc
    exact Or.inl (b4 _ (by show _ < 448; omega))
theorem ec_vd_bc {V : eb_Va} {s : eb_St} {c e e' to : Nat} (h : ec_bc e = ec_bc e') : ec_vd V s c e to = ec_vd V s c e' to := by
  unfold ec_vd ec_may ec_tk
  rw [h]
theorem ec_ne_tk {V : eb_Va} {s : eb_St} {c e to : Nat} (he : e < 64) (hk : s.k to ≤ 6) : (if ec_tk V s c e to = true then e ||| ec_bt (s.k to) else e) = ec_ne V s c e to := by
  unfold ec_ne ec_tn
  by_cases z : ec_tk V s c e to = true
  · rw [if_pos z]
    by_cases y : e / 2 ^ (s.k to - 1) % 2 = 0
    · rw [if_pos ⟨z, y⟩]
    · rw [if_neg (fun u => y u.2)]
      have k1 : 1 ≤ s.k to := by
        unfold ec_tk at z
        simp at z
        exact z.1.1
      rw [ec_or_in e he _ (by omega) k1 (by omega)]
      exact (Nat.or_zero e).symm
  · rw [if_neg z, if_neg (fun u => z u.1)]
    exact (Nat.or_zero e).symm
end EBGRAPH

section EBCODE
variable {L : Nat} {xs : Nat → Int32}
def ec_fv2 (c : Nat) : Prop := ec_19 c ∨ c = s_flights_verdicts
theorem ec_v8 : ∀ v, v < 4 → (nI v).toInt8.toInt32.toInt8.toInt32 = nI v := by decide
theorem ec_vd_lt {V : eb_Va} {s : eb_St} {c e to : Nat} : 1 ≤ ec_vd V s c e to ∧ ec_vd V s c e to < 4 := by
  unfold ec_vd
  split
  · split <;> omega
  · omega
theorem ec_fs_v (c : Nat) (z : ec_fv2 c) : ec_fs c := by
  rcases z with z | rfl
  · exact Or.inl (Or.inl z)
  · unfold ec_fs eb_ix s_flights_verdicts; omega
theorem ec_c4 {c e : Nat} (hc : c < 16) (he : e < 64) : nI (16 * e + c) &&& 15 = nI c ∧ nI (16 * e + c) >>> ((4 : Int32) &&& 31) = nI e := by
  constructor
  · rw [pk_andN (by omega) 4 (by decide)]
    congr 1
    omega
  · have := ec_shr (n := 16 * e + c) (j := 4) (by omega) (by omega)
    rw [show (2 : Nat) ^ 4 = 16 from rfl, show (16 * e + c) / 16 = e by omega] at this
    exact this
theorem ec_FL.fr {V : eb_Va} {s : eb_St} {D : Nat} {h h' : eb_H} (f : ec_FL V s D h) (F : ec_fr ec_19 h h') : ec_FL V s D h' := by
  obtain ⟨⟨v, ev, pv⟩, ps, e2, ca⟩ := f
  refine ⟨⟨v, by rw [F.R]; exact ev, pv.fr F (fun c z y => z.2 y)⟩, ps.fr F ec_flS.1.n19.1 ec_flS.1.n19.2, ?_, ?_⟩
  · rw [F.2.2 _ (by unfold ec_19 eb_kd s_flights; omega)]; exact e2
  · rw [F.2.2 _ (by unfold ec_19 eb_kd s_flights_verdicts; omega)]; exact ca
theorem C_ca {d : Nat} {h : eb_H} {Q : Option Value → eb_H → Prop} {V : eb_Va} {s : eb_St} (ok : eb_okV V) (os : eb_okS V s) (D : Nat) (hD : D < 65536) (fl : ec_FL V s D h) (c e way : Nat) (hc : c < V.R * V.W) (he : e < 64) (hw : way < 4) (ko : eb_KO h) (q : ∀ h', ec_fr ec_fv2 h h' → ec_FL V s D h' → Q (some (.int (ec_oi ((ec_g V s D (64 * c + e) way).map ec_cd)))) h') : eb_Ct (d + 4) 9 [.ref s_flights, .int (nI (16 * e + c)), .int (nI way)] h Q := by
  obtain ⟨r1, r2, r3, r4, r5, r6, r7, r8, r9, r10, _⟩ := ok.RW
  obtain ⟨n1, n2, n3, n4, n5, n6, n7⟩ := os.N ok
  have fl0 := fl
  obtain ⟨⟨v, ev, pv⟩, ps, e2, ca⟩ := fl
  obtain ⟨q1, q2⟩ := ec_c4 (c := c) (e := e) (by omega) he
  obtain ⟨s1, s2⟩ := ec_sq (c := c) he
  have hl := ec_bc_le e
  have eat : (((nI (ec_bc e) * 4) + nI way) * 16) + nI c = nI ((ec_bc e * 4 + way) * 16 + c) := by
    rw [show nI (ec_bc e) * 4 = nI (ec_bc e * 4) from pk_mul _ 4, nI_add, show nI (ec_bc e * 4 + way) * 16 = nI ((ec_bc e * 4 + way) * 16) from pk_mul _ 16, nI_add]
  refine T_X1_codeAfter (d := d + 3) _ _ ko ⟨v, ev, pv.1.1, ?_⟩
  rw [q1, q2]
  refine C_nb pv ok c way hc hw ko ⟨_, rfl, ko, ?_⟩
  cases hn : ec_nb V.R V.W c way with
  | none =>
    refine ⟨fun _ => ?_, fun z => absurd rfl z⟩
    have := q h ec_fr.rfl fl0
    rw [ec_g_1 (by rw [s1, s2]; unfold ec_why; rw [hn]; dsimp only; decide)] at this
    exact this
  | some to =>
    have hto := ec_nb_lt hc r6 hn
    obtain ⟨k1, k2⟩ := n7 to (by omega)
    refine ⟨fun z => absurd z (ec_m1 (n := to) (by omega)), fun _ => ?_⟩
    show (¬ ((eb_I h s_flights 2 >>> (nI to &&& 31)) &&& 1 = 1) → _) ∧ (((eb_I h s_flights 2 >>> (nI to &&& 31)) &&& 1 = 1) → _)
    rw [e2, ec_bit1 (by omega) (by omega), ec_nI1]
    refine ⟨fun z => ?_, fun z => ?_⟩
    · have fin : ∀ h', ec_fr ec_fv2 h h' → ec_FL V s D h' → Q (some (.int (if ec_vd V s c e to = 1 then -1 else nI (16 * ec_ne V s c e to + to)))) h' := fun h' F f => by
        have := q h' F f
        by_cases hm : ec_may V s c e to = true
        · have wz : ec_why V s D ((64 * c + e) / 64) ((64 * c + e) % 64) way = 0 := by
            rw [s1, s2]
            unfold ec_why
            rw [hn]
            dsimp only
            rw [if_neg z, if_pos hm]
          have hne := ec_ne_lt (V := V) (s := s) (c := c) (e := e) (to := to) he k2
          rw [ec_g_0 wz (by rw [s1]; exact hn), s1, s2] at this
          rw [if_neg (by unfold ec_vd; rw [if_pos hm]; split <;> omega)]
          have e5 : ec_oi ((some (64 * to + ec_ne V s c e to)).map ec_cd) = nI (16 * ec_ne V s c e to + to) := by
            show nI (ec_cd (64 * to + ec_ne V s c e to)) = _
            unfold ec_cd
            rw [(ec_sq hne).1, (ec_sq hne).2]
          rw [e5] at this
          exact this
        · rw [ec_g_1 (by rw [s1, s2]; unfold ec_why; rw [hn]; dsimp only; rw [if_neg z, if_neg hm]; decide)] at this
          rw [if_pos (by unfold ec_vd; rw [if_neg hm])]
          exact this
      have eth : eb_I h s_flights_state_things (nI to).toNatClampNeg = nI (s.k to) := by
        rw [eb_cln (by omega)]
        exact (ps.2.2.2.2.2.2 to (by omega)).trans k1
      have res : ∀ X : Int32, X = nI (ec_vd V s c e to) → ¬ X = 1 → (16 : Int32) * (if X = (3 : Int32) then (if (1 : Int32) ≤ nI (s.k to) then nI e ||| ((1 : Int32) <<< ((nI (s.k to) - 1) &&& 31)) else nI e ||| 0) else nI e : Int32) + nI to = nI (16 * ec_ne V s c e to + to) := by
        intro X hX nX
        have hne := ec_ne_lt (V := V) (s := s) (c := c) (e := e) (to := to) he k2
        have key : (if X = (3 : Int32) then (if (1 : Int32) ≤ nI (s.k to) then nI e ||| ((1 : Int32) <<< ((nI (s.k to) - 1) &&& 31)) else nI e ||| 0) else nI e : Int32) = nI (ec_ne V s c e to) := by
          rw [← ec_ne_tk he k2]
          have hm : ec_may V s c e to = true := by
            refine Classical.byContradiction fun y => nX ?_
            rw [hX]
            unfold ec_vd
            rw [if_neg y]
            rfl
          have ob := ec_or_lt 0 (by omega) (s.k to) (by omega)
          rw [Nat.zero_or] at ob
          by_cases tk : ec_tk V s c e to = true
          · rw [if_pos tk, if_pos (by rw [hX]; unfold ec_vd; rw [if_pos hm, if_pos tk]; rfl)]
            have kk : 1 ≤ s.k to := by
              have tk' := tk
              unfold ec_tk at tk'
              simp at tk'
              exact tk'.1.1
            have b := ec_btI (s.k to) (by omega)
            have le : (1 : Int32) ≤ nI (s.k to) := nI_le (a := 1) kk (by omega)
            rw [if_pos le] at b ⊢
            rw [b, ec_or (by omega) (by omega)]
          · rw [if_neg tk, if_neg]
            rw [hX]
            unfold ec_vd
            rw [if_pos hm, if_neg tk]
            decide
        rw [key, show (16 : Int32) * nI (ec_ne V s c e to) = nI (16 * ec_ne V s c e to) from pk_mul 16 _, nI_add]
      refine ec_b2 e he ko ⟨_, rfl, ko, fun y => absurd y (nI_pos (n := to) (by omega)), fun _ => ⟨fun y => absurd y (nI_ge (a := to) (b := 16) (by omega) (by omega)), fun _ => ⟨vp_in_nI (n := to) (by omega) (by omega), ?_⟩⟩⟩
      rw [eat]
      have vat : vp_in (nI ((ec_bc e * 4 + way) * 16 + c)) 448 := vp_in_nI (by omega) (by omega)
      have tat : (nI ((ec_bc e * 4 + way) * 16 + c)).toNatClampNeg = (ec_bc e * 4 + way) * 16 + c := eb_cln (by omega)
      rw [tat]
      refine ⟨fun y => absurd y (nI_pos (by omega)), fun _ => ⟨fun _ => ⟨vat, fun y => ⟨vat, ?_⟩, fun y => ?_⟩, fun y => absurd (nI_lt (b := 448) (by omega) (by omega)) y⟩⟩
      · have cv : eb_I h s_flights_verdicts ((ec_bc e * 4 + way) * 16 + c) = nI (ec_vd V s c e to) := by
          rcases ca (ec_bc e) way c hl hw (by omega) with u | u
          · exact absurd u y
          · exact u e to rfl hn
        obtain ⟨v1, v4⟩ := ec_vd_lt (V := V) (s := s) (c := c) (e := e) (to := to)
        have ff := fin h ec_fr.rfl fl0
        refine ⟨fun u => ⟨vat, ?_⟩, fun u => ?_⟩
        · rw [if_neg (by intro x; apply u; rw [cv, x]; rfl)] at ff
          have := res _ cv u
          rw [← eth] at this
          show Q (some (.int _)) h
          rw [← this] at ff
          exact ff
        · have u' : ec_vd V s c e to = 1 := by
            rw [cv] at u
            have u : nI (ec_vd V s c e to) = nI 1 := u
            rw [nI_eq (by omega) (by omega)] at u
            exact u
          rw [if_pos u'] at ff
          exact ff
      · rw [ps.2.2.2.2.1]
        refine ⟨v, ev, pv.1.1, ?_⟩
        have eth2 : eb_I h s_flights_state_things (ec_oi (some to)).toNatClampNeg = s.th to := by
          show eb_I h s_flights_state_things (nI to).toNatClampNeg = _
          rw [eth, k1]
        rw [eth2]
        refine C_vd (d := d) pv ok os c e to (by omega) (by omega) ko (fun h75 F75 => ⟨_, rfl, F75.ko ko, vat, vat, ?_⟩)
        obtain ⟨v1, v4⟩ := ec_vd_lt (V := V) (s := s) (c := c) (e := e) (to := to)
        rw [ec_v8 _ v4, eb_I_sI']
        have FF : ec_fr ec_fv2 h (eb_sI h75 s_flights_verdicts ((ec_bc e * 4 + way) * 16 + c) (nI (ec_vd V s c e to))) := (F75.weak (fun c z => Or.inl z)).sI (Or.inr rfl)
        have flN : ec_FL V s D (eb_sI h75 s_flights_verdicts ((ec_bc e * 4 + way) * 16 + c) (nI (ec_vd V s c e to))) := by
          obtain ⟨⟨v', ev', pv'⟩, ps', e2', ca'⟩ := fl0.fr F75
          have F1 : ec_fr (fun c => c = s_flights_verdicts) h75 (eb_sI h75 s_flights_verdicts ((ec_bc e * 4 + way) * 16 + c) (nI (ec_vd V s c e to))) := ec_fr.rfl.sI rfl
          refine ⟨⟨v', ev', pv'.fr F1 (fun c z y => by rw [y] at z; unfold eb_isV eb_ix s_flights_verdicts at z; omega)⟩, ps'.fr F1 (by decide) (by decide), ?_, ?_⟩
          · rw [eb_I_sIn (by decide)]; exact e2'
          · intro l way' c' hl' hw' hc'
            rw [eb_I_sI]
            by_cases same : (l * 4 + way') * 16 + c' = (ec_bc e * 4 + way) * 16 + c
            · have hl2 : l = ec_bc e := by omega
              have hw2 : way' = way := by omega
              have hc2 : c' = c := by omega
              refine Or.inr (fun e' to' h1 h2 => ?_)
              rw [if_pos same]
              rw [hc2, hw2] at h2
              rw [hn] at h2
              cases h2
              rw [hc2, ec_vd_bc (show ec_bc e = ec_bc e' by omega)]
            · rw [if_neg same]
              exact ca' l way' c' hl' hw' hc'
        have ff := fin _ FF flN
        refine ⟨fun u => ⟨vat, ?_⟩, fun u => ?_⟩
        · rw [if_neg (by intro x; apply u; rw [x]; rfl)] at ff
          have := res _ rfl u
          rw [← k1, ← eth2] at this
          show Q (some (.int _)) _
          rw [← this] at ff
          rw [eth2] at ff
          exact ff
        · have u' : ec_vd V s c e to = 1 := by
            have u : nI (ec_vd V s c e to) = nI 1 := u
            rw [nI_eq (by omega) (by omega)] at u
            exact u
          rw [if_pos u'] at ff
          exact ff
    · have := q h ec_fr.rfl fl0
      rw [ec_g_1 (by rw [s1, s2]; unfold ec_why; rw [hn]; dsimp only; rw [if_pos z]; decide)] at this
      exact this
end EBCODE

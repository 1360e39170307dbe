section EBXSTEP2
theorem ec_btI : ∀ k, k < 7 → (if (1 : Int32) ≤ nI k then (1 : Int32) <<< ((nI k - 1) &&& 31) else 0 : Int32) = nI (ec_bt k) := by decide +kernel
theorem ec_btZ : ∀ e, e < 64 → ∀ k, k < 7 → 1 ≤ k → ((nI e &&& nI (ec_bt k) = 0) ↔ e / 2 ^ (k - 1) % 2 = 0) := by decide +kernel
def ec_out (V : eb_Va) (s : eb_St) (way : Nat) : Int32 := match ec_nb V.R V.W s.b way with
  | none => -2
  | some to => if s.D / 2 ^ to % 2 = 1 then -3 else if ec_may V s s.b s.e to then nI (ec_tn V s s.b s.e to) else -4
theorem ec_tn_le {V : eb_Va} {s : eb_St} {c e to : Nat} (h : s.k to ≤ 6) : ec_tn V s c e to ≤ 6 := by
  unfold ec_tn
  split
  · exact h
  · omega
theorem C_so {d : Nat} {h : eb_H} {Q : Option Value → eb_H → Prop} {v a : Nat} {V : eb_Va} {s : eb_St} (p : PXV h v V) (ps : PXS h a s) (ia : eb_isS a) (ok : eb_okV V) (os : eb_okS V s) (way : Nat) (hw : way < 4) (ko : eb_KO h) (w : ∀ h', ec_fr ec_19 h h' → Q (some (.int (ec_out V s way))) h') : eb_Ct (d + 4) 89 [.ref v, .ref a, .int (nI way)] h Q := by
  obtain ⟨q1, q2, q3, q4, q5, q6, q7⟩ := ps
  obtain ⟨n1, n2, n3, n4, n5, n6, n7⟩ := os.N ok
  obtain ⟨r1, r2, r3, r4, r5, r6, r7, r8, r9, r10, _⟩ := ok.RW
  have e0 : eb_I h a 0 = nI s.b := q1.trans n1
  have e1 : eb_I h a 1 = nI s.e := q2.trans n2
  have e3 : eb_I h a 3 = nI s.D := q4.trans n3
  refine T_X9_stepOutcome v a (nI way) p.1.1 ia.1 ko ⟨fun z => absurd z (nI_pos (by omega)), fun _ => ⟨fun _ => ?_, fun z => absurd (nI_lt (b := 4) hw (by omega)) z⟩⟩
  rw [e0]
  refine C_nb p ok s.b way n4 hw ko ⟨_, rfl, ko, ?_⟩
  cases hn : ec_nb V.R V.W s.b way with
  | none =>
    refine ⟨fun z => absurd rfl z, fun _ => ?_⟩
    have := w h ec_fr.rfl
    rw [show ec_out V s way = -2 by unfold ec_out; rw [hn]] at this
    exact this
  | some to =>
    have hto : to < V.R * V.W := ec_nb_lt n4 r6 hn
    obtain ⟨k1, k2⟩ := n7 to (by omega)
    refine ⟨fun _ => ?_, fun z => absurd z (ec_m1 (n := to) (by omega))⟩
    show (¬ ((eb_I h a 3 >>> (nI to &&& 31)) &&& 1 = 1) → _) ∧ ((eb_I h a 3 >>> (nI to &&& 31)) &&& 1 = 1 → _)
    rw [e3, ec_bit1 (by omega) (by omega), ec_nI1]
    refine ⟨fun z => ⟨fun y => absurd y (nI_pos (n := to) (by omega)), fun _ => ⟨_, q6, ia.th.1, fun y => ?_, fun _ => ⟨?_, ?_⟩⟩⟩, fun z => ?_⟩
    · exfalso
      rw [ia.th.2] at y
      exact nI_ge (a := to) (b := 16) (by omega) (by omega) y
    · rw [ia.th.2]; exact vp_in_nI (by omega) (by omega)
    · have eth : eb_I h (a + 524807) (ec_oi (some to)).toNatClampNeg = s.th to := by
        show eb_I h (a + 524807) (nI to).toNatClampNeg = _
        rw [eb_cln (by omega)]
        exact q7 to (by omega)
      rw [e1, e0, eth]
      refine ec_b2 s.e n5 ko ⟨_, rfl, ko, ?_⟩
      rw [q5]
      refine C_vd p ok os s.b s.e to (by omega) (by omega) ko ?_
      intro h' F
      refine ⟨_, rfl, F.ko ko, ?_⟩
      have e1' : eb_I h' a 1 = nI s.e := by rw [F.2.2 a ia.n19.1]; exact e1
      have ww := w h' F
      unfold ec_out at ww
      rw [hn] at ww
      dsimp only at ww
      rw [if_neg z] at ww
      rw [e1', k1, ec_btI _ (by omega)]
      unfold ec_vd
      by_cases hm : ec_may V s s.b s.e to = true
      · rw [if_pos hm] at ww ⊢
        by_cases ht : ec_tk V s s.b s.e to = true
        · have k0 : 1 ≤ s.k to := by
            unfold ec_tk at ht
            simp at ht
            exact ht.1.1
          rw [if_pos ht]
          refine ⟨fun _ => ⟨fun y => absurd rfl y, fun _ => ?_⟩, fun y => absurd y (by decide)⟩
          unfold ec_tn at ww
          by_cases hb : s.e / 2 ^ (s.k to - 1) % 2 = 0
          · rw [if_pos ⟨ht, hb⟩] at ww
            rw [if_pos ((ec_btZ s.e n5 (s.k to) (by omega) k0).mpr hb)]
            exact ww
          · rw [if_neg (fun y => hb y.2)] at ww
            rw [if_neg (fun y => hb ((ec_btZ s.e n5 (s.k to) (by omega) k0).mp y))]
            exact ww
        · rw [if_neg ht]
          refine ⟨fun _ => ⟨fun y => ?_, fun y => absurd y (by decide)⟩, fun y => absurd y (by decide)⟩
          unfold ec_tn at ww
          rw [if_neg (fun y => ht y.1)] at ww
          exact ww
      · rw [if_neg hm] at ww ⊢
        exact ⟨fun y => absurd rfl y, fun _ => ww⟩
    · have ww := w h ec_fr.rfl
      unfold ec_out at ww
      rw [hn] at ww
      dsimp only at ww
      rw [if_pos z] at ww
      exact ww
/-- the state behind a step to a cell -/
def ec_fl (V : eb_Va) (s : eb_St) (to : Nat) : eb_St := fun j => if j = 0 then nI to else if j = 1 then nI (ec_ne V s s.b s.e to) else if j = 2 then s.steps + 1 else s j
theorem ec_fl_th {V : eb_Va} {s : eb_St} {to : Nat} (j : Nat) : (ec_fl V s to).th j = s.th j := by
  show ec_fl V s to (5 + j) = s (5 + j)
  unfold ec_fl
  rw [if_neg (by omega), if_neg (by omega), if_neg (by omega)]
theorem ec_fl_ok {V : eb_Va} {s : eb_St} {to : Nat} (ok : eb_okV V) (os : eb_okS V s) (hto : to < V.R * V.W) : eb_okS V (ec_fl V s to) := by
  obtain ⟨n1, n2, n3, n4, n5, n6, n7⟩ := os.N ok
  obtain ⟨r1, r2, r3, r4, r5, r6, r7, r8, r9, r10, r11, r12, r13⟩ := ok.RW
  refine ⟨?_, ?_, os.drifts, os.wind, fun j hj => by rw [ec_fl_th]; exact os.th j hj⟩
  · show 0 ≤ (nI to).toInt ∧ (nI to).toInt < _
    rw [nI_toInt (by omega)]
    omega
  · show 0 ≤ (nI (ec_ne V s s.b s.e to)).toInt ∧ (nI (ec_ne V s s.b s.e to)).toInt < 64
    have := ec_ne_lt (V := V) (c := s.b) n5 (n7 to (by omega)).2
    rw [nI_toInt (by omega)]
    omega
/-- what makeStep leaves: nothing, or the step -/
theorem C_ms {d : Nat} {h : eb_H} {Q : Option Value → eb_H → Prop} {v a : Nat} {V : eb_Va} {s : eb_St} (p : PXV h v V) (ps : PXS h a s) (ia : eb_isS a) (na : ¬ eb_isV a) (ok : eb_okV V) (os : eb_okS V s) (way : Nat) (hw : way < 4) (ko : eb_KO h)
    (w0 : ∀ h', ec_fr ec_19 h h' → ec_out V s way < 0 → Q (some (.int (ec_out V s way))) h')
    (w1 : ∀ h' to, ec_nb V.R V.W s.b way = some to → ¬ s.D / 2 ^ to % 2 = 1 → ec_may V s s.b s.e to = true → ec_out V s way = nI (ec_tn V s s.b s.e to) → PXS h' a (ec_fl V s to) → ec_fr (fun c => ec_19 c ∨ c = a) h h' → Q (some (.int (nI (ec_tn V s s.b s.e to)))) h') : eb_Ct (d + 5) 90 [.ref v, .ref a, .int (nI way)] h Q := by
  obtain ⟨n1, n2, n3, n4, n5, n6, n7⟩ := os.N ok
  obtain ⟨r1, r2, r3, r4, r5, r6, r7, r8, r9, r10, _⟩ := ok.RW
  refine T_X9_makeStep v a (nI way) p.1.1 ia.1 ko (C_so p ps ia ok os way hw ko ?_)
  intro h1 F1
  have ko1 := F1.ko ko
  have ps1 : PXS h1 a s := ps.fr F1 ia.n19.1 ia.n19.2
  refine ⟨_, rfl, ko1, ?_⟩
  by_cases neg : ec_out V s way < 0
  · refine ⟨fun z => ?_, fun _ => w0 h1 F1 neg⟩
    exfalso
    rw [eb_i32e, eb_z32] at z
    rw [eb_i32, eb_z32] at neg
    omega
  · cases hn : ec_nb V.R V.W s.b way with
    | none =>
      exfalso
      apply neg
      unfold ec_out
      rw [hn]
      dsimp only
      decide
    | some to =>
      have hto : to < V.R * V.W := ec_nb_lt n4 r6 hn
      obtain ⟨k1, k2⟩ := n7 to (by omega)
      have tl := ec_tn_le (V := V) (c := s.b) (e := s.e) k2
      have hD : ¬ s.D / 2 ^ to % 2 = 1 := fun z => by
        apply neg
        unfold ec_out
        rw [hn]
        dsimp only
        rw [if_pos z]
        decide
      have hm : ec_may V s s.b s.e to = true := by
        refine Classical.byContradiction fun z => ?_
        apply neg
        unfold ec_out
        rw [hn]
        dsimp only
        rw [if_neg hD, if_neg z]
        decide
      have eo : ec_out V s way = nI (ec_tn V s s.b s.e to) := by
        unfold ec_out
        rw [hn]
        dsimp only
        rw [if_neg hD, if_pos hm]
      rw [eo]
      refine ⟨fun _ => ?_, fun z => absurd (nI_pos' (by omega)) z⟩
      obtain ⟨q1, q2, q3, q4, q5, q6, q7⟩ := ps1
      rw [ec_btI _ (by omega), q2, n2, ec_or (by omega) (Nat.lt_of_le_of_lt (show ec_bt (ec_tn V s s.b s.e to) ≤ 63 by have := ec_or_lt 0 (by omega) (ec_tn V s s.b s.e to) (by omega); rw [Nat.zero_or] at this; omega) (by omega))]
      have ea : eb_I (eb_sI h1 a 1 (nI (s.e ||| ec_bt (ec_tn V s s.b s.e to)))) a 0 = nI s.b := by
        rw [eb_I_sI, if_neg (by decide), q1, n1]
      rw [ea]
      have F2 : ec_fr (fun c => ec_19 c ∨ c = a) h (eb_sI h1 a 1 (nI (s.e ||| ec_bt (ec_tn V s s.b s.e to)))) := (F1.weak (fun c z => Or.inl z)).sI (Or.inr rfl)
      have p2 : PXV (eb_sI h1 a 1 (nI (s.e ||| ec_bt (ec_tn V s s.b s.e to)))) v V := p.fr F2 (fun c z y => by
        rcases y with y | y
        · exact z.2 y
        · rw [y] at z; exact na z)
      refine C_nb p2 ok s.b way n4 hw (F2.ko ko) ⟨_, rfl, F2.ko ko, ?_⟩
      rw [hn]
      refine w1 _ to hn hD hm eo ?_ ((F2.sI (Or.inr rfl)).sI (Or.inr rfl))
      have nt : a + 524807 ≠ a := by omega
      refine ⟨?_, ?_, ?_, ?_, ?_, q6, fun j hj => ?_⟩
      · rw [eb_I_sI, if_neg (by decide), eb_I_sI']; rfl
      · rw [eb_I_sI, if_neg (by decide), eb_I_sI, if_neg (by decide), eb_I_sI']; rfl
      · rw [eb_I_sI', eb_I_sI, if_neg (by decide), eb_I_sI, if_neg (by decide), q3]; rfl
      · rw [eb_I_sI, if_neg (by decide), eb_I_sI, if_neg (by decide), eb_I_sI, if_neg (by decide), q4]; rfl
      · rw [eb_I_sI, if_neg (by decide), eb_I_sI, if_neg (by decide), eb_I_sI, if_neg (by decide), q5]; rfl
      · rw [eb_I_sIn nt, eb_I_sIn nt, eb_I_sIn nt]
        rw [ec_fl_th]
        exact q7 j hj
end EBXSTEP2

section EBXSTEP
/-- only ints of the cells of P changed -/
def ec_fr (P : Nat → Prop) (h h' : eb_H) : Prop := eb_nz h h' ∧ eb_J h' = eb_J h ∧ ∀ c, ¬ P c → eb_I h' c = eb_I h c
theorem ec_fr.rfl {P : Nat → Prop} {h : eb_H} : ec_fr P h h := ⟨eb_nz.rfl, Eq.refl _, fun _ _ => Eq.refl _⟩
theorem ec_fr.trans {P : Nat → Prop} {h h1 h2 : eb_H} (a : ec_fr P h h1) (b : ec_fr P h1 h2) : ec_fr P h h2 := ⟨a.1.trans b.1, b.2.1.trans a.2.1, fun c z => (b.2.2 c z).trans (a.2.2 c z)⟩
theorem ec_fr.weak {P P' : Nat → Prop} {h h1 : eb_H} (a : ec_fr P h h1) (z : ∀ c, P c → P' c) : ec_fr P' h h1 := ⟨a.1, a.2.1, fun c q => a.2.2 c (fun y => q (z c y))⟩
theorem ec_fr.ko {P : Nat → Prop} {h h1 : eb_H} (a : ec_fr P h h1) (ko : eb_KO h) : eb_KO h1 := a.1.ko ko
theorem ec_fr.R {P : Nat → Prop} {h h1 : eb_H} (a : ec_fr P h h1) : eb_R h1 = eb_R h := a.1.2.2.2.2
theorem ec_fr.same {P Z : Nat → Prop} {h h1 : eb_H} (a : ec_fr P h h1) (z : ∀ c, Z c → ¬ P c) : eb_same Z h h1 := fun c q => ⟨a.2.2 c (z c q), by rw [a.2.1], by rw [a.R]⟩
theorem ec_fr.sI {P : Nat → Prop} {h h1 : eb_H} (a : ec_fr P h h1) {i k : Nat} {v : Int32} (p : P i) : ec_fr P h (eb_sI h1 i k v) := ⟨a.1, a.2.1, fun c q => by rw [eb_I_sIn (fun e : c = i => q (by rw [e]; exact p))]; exact a.2.2 c q⟩
theorem ec_fr.rI {P : Nat → Prop} {h h1 : eb_H} (a : ec_fr P h h1) {i : Nat} {f : Nat → Int32} (p : P i) : ec_fr P h (eb_rI h1 i f) := ⟨a.1, a.2.1, fun c q => by rw [eb_I_rIn (fun e : c = i => q (by rw [e]; exact p))]; exact a.2.2 c q⟩
def ec_19 (c : Nat) : Prop := eb_kd c = 19
theorem PXS.fr {P : Nat → Prop} {h h' : eb_H} {a : Nat} {s : eb_St} (p : PXS h a s) (f : ec_fr P h h') (a1 : ¬ P a) (a2 : ¬ P (a + 524807)) : PXS h' a s := p.mv (f.2.2 _ a1) (by rw [f.R]) (f.2.2 _ a2)
theorem PXV.fr {P : Nat → Prop} {h h' : eb_H} {v : Nat} {V : eb_Va} (p : PXV h v V) (f : ec_fr P h h') (z : ∀ c, eb_isV c → ¬ P c) : PXV h' v V := p.mv (f.same z)
theorem eb_isS.n19 {a : Nat} (p : eb_isS a) : ¬ ec_19 a ∧ ¬ ec_19 (a + 524807) := by
  unfold ec_19
  rw [p.1, p.th.1]
  decide
theorem ec_b2 (e : Nat) (he : e < 64) : ∀ {d : Nat} {h : eb_H} {Q : Option Value → eb_H → Prop}, eb_KO h → Q (some (.int (nI (ec_bc e)))) h → eb_Ct d 283 [.int (nI e)] h Q := by
  intro d h Q ko w
  refine T_J6_bitCount_0f7a4 (nI e) ko ?_
  have key : ∀ x : Int32, x = nI (ec_bc e) → Q (some (.int x)) h := fun x hx => by rw [hx]; exact w
  apply key
  clear key w
  revert e
  decide +kernel
/-- a law of the class is asked -/
theorem C_holds {d : Nat} {h : eb_H} {Q : Option Value → eb_H → Prop} {v k l : Nat} {cs : List Int32} (p : PXL h v k (some cs)) (hl : eb_R h v k = some l) (x1 x2 x3 x4 x5 x6 : Int32) (ko : eb_KO h) (ok : eb_okL (some cs)) (w : ∀ h', ec_fr ec_19 h h' → Q (some (.int (eb_q (ec_ok (some cs) (ec_w6 x1 x2 x3 x4 x5 x6) = true)))) h') : eb_kd l = 2 ∧ eb_Ct (d + 2) 25 [.ref l, .int x1, .int x2, .int x3, .int x4, .int x5, .int x6] h Q := by
  obtain ⟨l', c, st, nm, e0, p2, p3, p4, p5, p6⟩ := p
  rw [hl] at e0
  cases e0
  obtain ⟨n, hn, ht⟩ := ok cs rfl
  obtain ⟨vv, hv, s1, s2, s3, s4, s5⟩ := ec_isT (ec_w6 x1 x2 x3 x4 x5 x6) ht
  refine ⟨p2.1, T_X2_holds l x1 x2 x3 x4 x5 x6 p2.1 ko ⟨nm, p5.1, p5.2.1, ?_, ?_, ?_, ?_, ?_, ?_, ?_⟩⟩
  · rw [p5.2.2]; exact vp_in_nI (n := 0) (by decide) (by decide)
  · rw [p5.2.2]; exact vp_in_nI (n := 1) (by decide) (by decide)
  · rw [p5.2.2]; exact vp_in_nI (n := 2) (by decide) (by decide)
  · rw [p5.2.2]; exact vp_in_nI (n := 3) (by decide) (by decide)
  · rw [p5.2.2]; exact vp_in_nI (n := 4) (by decide) (by decide)
  · rw [p5.2.2]; exact vp_in_nI (n := 5) (by decide) (by decide)
  · have q19 : ec_19 nm := p5.2.1
    have F : ec_fr ec_19 h (eb_sI (eb_sI (eb_sI (eb_sI (eb_sI (eb_sI h nm (0 : Int32).toNatClampNeg x1) nm (1 : Int32).toNatClampNeg x2) nm (2 : Int32).toNatClampNeg x3) nm (3 : Int32).toNatClampNeg x4) nm (4 : Int32).toNatClampNeg x5) nm (5 : Int32).toNatClampNeg x6) := (((((ec_fr.rfl.sI q19).sI q19).sI q19).sI q19).sI q19).sI q19
    have W : ∀ j, j < 6 → eb_I (eb_sI (eb_sI (eb_sI (eb_sI (eb_sI (eb_sI h nm (0 : Int32).toNatClampNeg x1) nm (1 : Int32).toNatClampNeg x2) nm (2 : Int32).toNatClampNeg x3) nm (3 : Int32).toNatClampNeg x4) nm (4 : Int32).toNatClampNeg x5) nm (5 : Int32).toNatClampNeg x6) nm j = ec_w6 x1 x2 x3 x4 x5 x6 j := by
      intro j hj
      rw [eb_I_sI, eb_I_sI, eb_I_sI, eb_I_sI, eb_I_sI, eb_I_sI]
      show (if j = 5 then x6 else if j = 4 then x5 else if j = 3 then x4 else if j = 2 then x3 else if j = 1 then x2 else if j = 0 then x1 else _) = _
      unfold ec_w6
      rcases (by omega : j = 0 ∨ j = 1 ∨ j = 2 ∨ j = 3 ∨ j = 4 ∨ j = 5) with rfl | rfl | rfl | rfl | rfl | rfl <;> rfl
    generalize eb_sI (eb_sI (eb_sI (eb_sI (eb_sI (eb_sI h nm (0 : Int32).toNatClampNeg x1) nm (1 : Int32).toNatClampNeg x2) nm (2 : Int32).toNatClampNeg x3) nm (3 : Int32).toNatClampNeg x4) nm (4 : Int32).toNatClampNeg x5) nm (5 : Int32).toNatClampNeg x6 = g at F W
    have hR := F.R
    have X1 : eb_XL1 g l c st nm (ec_w6 x1 x2 x3 x4 x5 x6) := ⟨p2.1, F.ko ko, by rw [hR]; exact ⟨p3.1, p3.2.1⟩, by rw [hR]; exact p4, by rw [hR]; exact p5, W⟩
    have hlen : eb_ln c < 16384 := by unfold eb_ln; omega
    refine s4 (d + 1) h g Q l c st nm 0 0 X1 (by omega) (by rw [p3.2.2.2]; omega) (fun j hj => ?_) (by omega) (fun f f0 _ => ?_)
    · rw [Nat.zero_add, F.2.2 c (by unfold ec_19; rw [p3.2.1]; decide)]
      exact p6 j hj
    · have F2 : ec_fr ec_19 h (eb_rI g st f) := F.rI p4.2.1
      refine b_X2_holds_51 l _ _ p2.1 (F2.ko ko) ⟨c, by rw [F2.R]; exact p3.1, p3.2.1, fun _ => ⟨fun z => absurd z (nI_nle (by omega) (by omega)), fun _ => ⟨st, by rw [F2.R]; exact p4.1, p4.2.1, by rw [p4.2.2]; exact vp_in_nI (n := 0) (by decide) (by decide), ?_⟩⟩, fun z => ?_⟩
      · have e1 : eb_I (eb_rI g st f) st (0 : Int32).toNatClampNeg = vv := by rw [eb_I_rI]; exact f0
        rw [e1]
        have e2 : eb_q (¬ (vv = 0)) = eb_q (ec_ok (some cs) (ec_w6 x1 x2 x3 x4 x5 x6) = true) := by
          show _ = eb_q (decide ((ec_run (ec_w6 x1 x2 x3 x4 x5 x6) cs []).headD 0 = 1) = true)
          rw [s3 []]
          rcases hv with rfl | rfl
          · rw [eb_qf (by decide), eb_qf (by decide)]
          · rw [eb_qt (by decide), eb_qt (by decide)]
        rw [e2]
        exact w _ F2
      · exfalso
        apply z
        rw [p3.2.2.2, Nat.zero_add]
        exact nI_le (Nat.le_refl _) (by rw [← p3.2.2.2]; omega)
theorem ec_mod (c W : Nat) (hc : c < 2 ^ 31) (h0 : 0 < W) (hW : W < 2 ^ 31) : nI c - nI c / nI W * nI W = nI (c % W) := pk_rem hc h0 hW
theorem ec_nb0 (R W c : Nat) : ec_nb R W c 0 = if c < W then none else some (c - W) := rfl
theorem ec_nb1 (R W c : Nat) : ec_nb R W c 1 = if c % W + 1 = W then none else some (c + 1) := rfl
theorem ec_nb2 (R W c : Nat) : ec_nb R W c 2 = if c + W < R * W then some (c + W) else none := rfl
theorem ec_nb3 (R W c : Nat) : ec_nb R W c 3 = if c % W = 0 then none else some (c - 1) := rfl
theorem C_nb {d : Nat} {h : eb_H} {Q : Option Value → eb_H → Prop} {v : Nat} {V : eb_Va} (p : PXV h v V) (ok : eb_okV V) (c way : Nat) (hc : c < V.R * V.W) (hw : way < 4) (ko : eb_KO h) (w : Q (some (.int (ec_oi (ec_nb V.R V.W c way)))) h) : eb_Ct (d + 1) 87 [.ref v, .int (nI c), .int (nI way)] h Q := by
  obtain ⟨p0, p1, p2, _⟩ := p
  obtain ⟨r1, r2, r3, r4, r5, r6, r7, r8, r9, r10, _⟩ := ok.RW
  have e1 : eb_I h v 0 = nI V.R := p1.trans r1
  have e2 : eb_I h v 1 = nI V.W := p2.trans r2
  have pos : (¬ (nI c < 0)) ∧ (¬ (nI V.R * nI V.W ≤ nI c)) := ⟨nI_pos (by omega), by rw [pk_mul]; exact nI_ge hc (by omega)⟩
  refine T_X9_neighbour v (nI c) (nI way) p0.1 ko ?_
  rw [e1, e2]
  refine ⟨fun z => absurd pos z, fun _ => ⟨fun _ => ⟨nI_ne0 r6 (by omega), fun z => ?_, fun z => ?_, fun z => ?_, fun z => ?_, fun z0 z1 z2 z3 => ?_⟩, fun z => absurd (nI_le (a := 1) r6 (by omega)) z⟩⟩
  · have z : nI way = nI 0 := z
    rw [nI_eq (by omega) (by omega)] at z
    subst z
    have e : (if nI c < nI V.W then (-1) else nI c - nI V.W : Int32) = ec_oi (ec_nb V.R V.W c 0) := by
      rw [ec_nb0]
      by_cases q : c < V.W
      · rw [if_pos (nI_lt q (by omega)), if_pos q]; rfl
      · rw [if_neg (nI_nlt (by omega) (by omega)), if_neg q, pk_sub (by omega)]; rfl
    rw [e]; exact w
  · have z : nI way = nI 1 := z
    rw [nI_eq (by omega) (by omega)] at z
    subst z
    have hm := Nat.mod_lt c r6
    have e : (if nI V.W ≤ (nI c - nI c / nI V.W * nI V.W) + 1 then (-1) else nI c + 1 : Int32) = ec_oi (ec_nb V.R V.W c 1) := by
      rw [ec_nb1, ec_mod c V.W (by omega) (by omega) (by omega), nI_1, nI_1]
      by_cases q : c % V.W + 1 = V.W
      · rw [if_pos (nI_le (by omega) (by omega)), if_pos q]; rfl
      · rw [if_neg (nI_ge (by omega) (by omega)), if_neg q]; rfl
    rw [e]; exact w
  · have z : nI way = nI 2 := z
    rw [nI_eq (by omega) (by omega)] at z
    subst z
    have e : (if (¬ ((nI c + nI V.W) < 0)) ∧ (¬ (nI V.R * nI V.W ≤ (nI c + nI V.W))) then nI c + nI V.W else (-1) : Int32) = ec_oi (ec_nb V.R V.W c 2) := by
      rw [ec_nb2, nI_add, pk_mul]
      by_cases q : c + V.W < V.R * V.W
      · rw [if_pos ⟨nI_pos (by omega), nI_ge q (by omega)⟩, if_pos q]; rfl
      · rw [if_neg (fun y => y.2 (nI_le (by omega) (by omega))), if_neg q]; rfl
    rw [e]; exact w
  · have z : nI way = nI 3 := z
    rw [nI_eq (by omega) (by omega)] at z
    subst z
    have e : (if (nI c - nI c / nI V.W * nI V.W) ≤ 0 then (-1) else nI c - 1 : Int32) = ec_oi (ec_nb V.R V.W c 3) := by
      have hm := Nat.mod_lt c r6
      rw [ec_nb3, ec_mod c V.W (by omega) (by omega) (by omega)]
      by_cases q : c % V.W = 0
      · rw [if_pos q, q]; rfl
      · rw [if_neg (nI_nle (by omega) (by omega)), if_neg q]
        have : 1 ≤ c := by
          rcases Nat.eq_zero_or_pos c with y | y
          · exfalso; apply q; rw [y]; exact Nat.zero_mod _
          · exact y
        have e1 : nI c - 1 = nI (c - 1) := pk_sub (b := 1) this
        rw [e1]; rfl
    rw [e]; exact w
  · exfalso
    rcases (by omega : way = 0 ∨ way = 1 ∨ way = 2 ∨ way = 3) with rfl | rfl | rfl | rfl
    · exact z0 rfl
    · exact z1 rfl
    · exact z2 rfl
    · exact z3 rfl
/-- what the laws say of a step -/
def ec_vd (V : eb_Va) (s : eb_St) (c e to : Nat) : Nat := if ec_may V s c e to then (if ec_tk V s c e to then 3 else 2) else 1
theorem C_vd {d : Nat} {h : eb_H} {Q : Option Value → eb_H → Prop} {v : Nat} {V : eb_Va} {s : eb_St} (p : PXV h v V) (ok : eb_okV V) (os : eb_okS V s) (c e to : Nat) (hc : c < 16) (hto : to < 16) (ko : eb_KO h) (w : ∀ h', ec_fr ec_19 h h' → Q (some (.int (nI (ec_vd V s c e to)))) h') : eb_Ct (d + 3) 88 [.ref v, .int (nI c), .int (nI to), .int (nI (ec_bc e)), .int s.wind, .int (s.th to)] h Q := by
  obtain ⟨p0, p1, p2, p3, p4, p5, p6, p7, p8, p9⟩ := p
  obtain ⟨r1, r2, r3, r4, r5, r6, r7, r8, r9, r10, _⟩ := ok.RW
  obtain ⟨_, _, _, _, _, _, thn⟩ := os.N ok
  obtain ⟨tk1, tk2⟩ := thn to hto
  obtain ⟨l1, l2, l3, l4⟩ := eb_va_ln p0.1 p0.2.1
  have hbc := ec_bc_le e
  have nge : ∀ q, q < 16 → ¬ (Int32.ofNat (eb_ln (v + 1049092))) ≤ nI q := fun q hq => by rw [l3]; exact nI_ge hq (by omega)
  have hi : ∀ q, q < 16 → vp_in (nI q) (eb_ln (v + 1049092)) := fun q hq => by rw [l3]; exact vp_in_nI hq (by omega)
  have ht : ∀ q, q < 16 → eb_I h (v + 1049092) (nI q).toNatClampNeg = V.ht q := fun q hq => by rw [eb_cln (by omega)]; exact p7.2 q hq
  have hb : eb_I h v 2 = nI V.B := p3.trans r3
  have k1 : s.th to < (1 : Int32) ↔ ¬ 1 ≤ s.k to := by
    rw [tk1]
    have : nI (s.k to) < nI 1 ↔ s.k to < 1 := nI_ltI (by omega) (by omega)
    have q : nI (s.k to) < (1 : Int32) ↔ s.k to < 1 := this
    rw [q]; omega
  have k2 : nI (ec_bc e) < nI V.B ↔ ec_bc e < V.B := nI_ltI (by omega) (by omega)
  -- the second law
  have T : ∀ g, ec_fr ec_19 h g → ec_may V s c e to = true → ((s.th to < (1 : Int32) → Q (some (.int 2)) g) ∧ (¬ (s.th to < (1 : Int32)) → ((nI (ec_bc e) < (eb_I g v 2) → ((eb_R g v 8 = none → Q (some (.int 3)) g) ∧ (∀ r18, eb_R g v 8 = some r18 → (eb_kd r18 = 2) ∧ eb_Ct (d + 2) 25 [.ref r18, .int (V.ht to), .int (V.ht c), .int (nI (ec_bc e)), .int s.wind, .int (nI to), .int (s.th to)] g (fun r h20 => ∃ y21, r = some (.int y21) ∧ eb_KO h20 ∧ ((¬ y21 = 0 → Q (some (.int 3)) h20) ∧ (y21 = 0 → Q (some (.int 2)) h20)))))) ∧ (¬ (nI (ec_bc e) < (eb_I g v 2)) → Q (some (.int 2)) g)))) := by
    intro g F hm
    have n19 : ¬ ec_19 v := by unfold ec_19; rw [p0.1]; decide
    have gb : eb_I g v 2 = nI V.B := by rw [F.2.2 v n19]; exact hb
    have vd2 : ec_tk V s c e to = false → nI (ec_vd V s c e to) = 2 := fun z => by unfold ec_vd; rw [if_pos hm, z]; rfl
    have vd3 : ec_tk V s c e to = true → nI (ec_vd V s c e to) = 3 := fun z => by unfold ec_vd; rw [if_pos hm, if_pos z]; rfl
    rw [gb]
    refine ⟨fun z => ?_, fun z => ⟨fun z2 => ⟨fun z3 => ?_, fun l hl => ?_⟩, fun z2 => ?_⟩⟩
    · have := w g F
      rw [vd2 (by unfold ec_tk; rw [k1] at z; simp [z])] at this
      exact this
    · have := w g F
      have pn : V.takes = none := by
        cases hq : V.takes with
        | none => rfl
        | some cs =>
          rw [hq] at p9
          obtain ⟨l, _, _, _, q, _⟩ := p9
          rw [F.R, q] at z3
          cases z3
      rw [vd3 (by unfold ec_tk; rw [k1] at z; rw [k2] at z2; rw [pn]; simp only [ec_ok]; simp [Decidable.not_not.mp z, z2])] at this
      exact this
    · cases hq : V.takes with
      | none =>
        rw [hq] at p9
        rw [F.R, show eb_R h v 8 = none from p9] at hl
        cases hl
      | some cs =>
        rw [hq] at p9
        have p9' : PXL g v 8 (some cs) := p9.mv (by rw [F.R]) (F.same (fun c y => y.2))
        refine C_holds p9' hl (V.ht to) (V.ht c) (nI (ec_bc e)) s.wind (nI to) (s.th to) (F.ko ko) (by have := ok.takes; rw [hq] at this; exact this) (fun h' F' => ⟨_, rfl, (F.trans F').ko ko, fun y => ?_, fun y => ?_⟩)
        · have := w h' (F.trans F')
          rw [eb_q1] at y
          rw [vd3 (by unfold ec_tk ec_wv; rw [k1] at z; rw [k2] at z2; rw [hq]; simp [Decidable.not_not.mp z, z2, y])] at this
          exact this
        · have := w h' (F.trans F')
          rw [eb_q0] at y
          rw [vd2 (by unfold ec_tk ec_wv; rw [hq]; simp [y])] at this
          exact this
    · have := w g F
      rw [vd2 (by unfold ec_tk; rw [k2] at z2; simp [z2])] at this
      exact this
  refine T_X9_verdict v (nI c) (nI to) (nI (ec_bc e)) s.wind (s.th to) p0.1 ko ⟨fun z => absurd z (nI_pos (by omega)), fun _ => ⟨_, p7.1, l4, fun z => absurd z (nge to hto), fun _ => ⟨hi to hto, fun z => absurd z (nI_pos (by omega)), fun _ => ⟨fun z => absurd z (nge c hc), fun _ => ⟨hi c hc, ?_⟩⟩⟩⟩⟩
  rw [ht to hto, ht c hc]
  refine ⟨fun z => ?_, fun l hl => ?_⟩
  · refine T h ec_fr.rfl ?_
    cases hq : V.may with
    | none => unfold ec_may; rw [hq]; rfl
    | some cs =>
      rw [hq] at p8
      obtain ⟨l, _, _, _, q, _⟩ := p8
      rw [q] at z
      cases z
  · cases hq : V.may with
    | none =>
      rw [hq] at p8
      rw [show eb_R h v 7 = none from p8] at hl
      cases hl
    | some cs =>
      rw [hq] at p8
      refine C_holds p8 hl (V.ht to) (V.ht c) (nI (ec_bc e)) s.wind (nI to) (s.th to) ko (by have := ok.may; rw [hq] at this; exact this) (fun h' F' => ⟨_, rfl, F'.ko ko, fun y => ?_, fun y => ?_⟩)
      · refine T h' F' ?_
        rw [eb_q1] at y
        unfold ec_may ec_wv
        rw [hq]
        exact y
      · have := w h' F'
        rw [eb_q0] at y
        have e1 : nI (ec_vd V s c e to) = 1 := by
          unfold ec_vd ec_may ec_wv
          rw [hq, if_neg y]
          rfl
        rw [e1] at this
        exact this
end EBXSTEP

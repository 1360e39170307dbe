section EBXBAT
variable {L : Nat} {xs : Nat → Int32}
def ee_wt (e w : Nat) : Nat := if w = 0 then e else e ||| 2 ^ (min w 6 - 1)
theorem ee_bw0 : ∀ e, e < 64 → ∀ m, m < 7 → nI e ||| (if (1 : Int32) ≤ nI m then (1 : Int32) <<< ((nI m - 1) &&& 31) else 0 : Int32) = nI (if m = 0 then e else e ||| 2 ^ (m - 1)) ∧ (if m = 0 then e else e ||| 2 ^ (m - 1)) < 64 := by decide +kernel
theorem ee_bw {e w : Nat} (he : e < 64) (hw : w < 1000) : nI e ||| (if (1 : Int32) ≤ (if (6 : Int32) < nI w then 6 else nI w : Int32) then (1 : Int32) <<< (((if (6 : Int32) < nI w then 6 else nI w : Int32) - 1) &&& 31) else 0 : Int32) = nI (ee_wt e w) ∧ ee_wt e w < 64 := by
  have c : ((6 : Int32) < nI w) ↔ 6 < w := nI_ltI (a := 6) (by decide) (by omega)
  have m6 : (if (6 : Int32) < nI w then 6 else nI w : Int32) = nI (min w 6) := by
    by_cases z : 6 < w
    · rw [if_pos (c.mpr z), show min w 6 = 6 by omega]
      rfl
    · rw [if_neg (fun u => z (c.mp u)), show min w 6 = w by omega]
  rw [m6]
  have k := ee_bw0 e he (min w 6) (by omega)
  have e2 : (if min w 6 = 0 then e else e ||| 2 ^ (min w 6 - 1)) = ee_wt e w := by
    unfold ee_wt
    by_cases z : w = 0
    · rw [if_pos z, if_pos (by omega)]
    · rw [if_neg z, if_neg (by omega)]
  rw [e2] at k
  exact k
theorem ee_bc1 : ∀ e, e < 64 → ∀ u, u < 6 → ec_bc (e ||| 2 ^ u) = ec_bc e + (if e / 2 ^ u % 2 = 0 then 1 else 0) := by decide +kernel
theorem ee_set_set {D : ee_D} {j : Nat} {x y : Int32} : ee_set (ee_set D j x) j y = ee_set D j y := by
  unfold ee_set
  refine congrArg (fun f => (f, D.2)) (funext fun i => ?_)
  show (if i = j then y else if i = j then x else D.1 i) = _
  by_cases z : i = j
  · rw [if_pos z, if_pos z]
  · rw [if_neg z, if_neg z, if_neg z]
theorem C_bat0 {d : Nat} {h0 h g0 : eb_H} {Q : Option Value → eb_H → Prop} {tx : Nat → Nat} {n v : Nat} {y : Int32 × Int32} {i : Int32} (x : ee_XF g0 h v tx n y) (q : Q none h) : eb_Sn (d + 8) m_X5_readBat h0 33 [(0, .ref s_reader), (1, .int i)] [] h Q := by
  obtain ⟨b, p, hp, t⟩ := x
  exact b_X5_readBat_33 (d := d + 7) _ b.ko ⟨fun _ => q, fun _ => ⟨fun _ => q, fun z => absurd (t.2.2.2.2.2.1.symm.trans z) t.2.2.2.2.2.2.2⟩⟩
theorem C_batl {d : Nat} {h0 g0 : eb_H} {Q : Option Value → eb_H → Prop} {tx : Nat → Nat} {n v c : Nat} (ht : ∀ j, j < n → tx j < 256) (hn : n ≤ 900) (hc : c ≤ 6) : ∀ (f i p e : Nat) (D : ee_D) (h : eb_H), n - p < f → i ≤ p → ee_XR g0 h v tx n p (ee_set D 32 (nI e)) → e < 64 → ec_bc e ≤ c → D.1 3 = nI c → (∀ h', ee_vf v h h' → ee_XQ g0 h' v tx n (ee_batl tx n c f p e D) → Q none h') → eb_Sn (d + 8) m_X5_readBat h0 33 [(0, .ref s_reader), (1, .int (nI i))] [] h Q
  | 0, i, p, e, D, h, hf, _, _, _, _, _, _ => absurd hf (by omega)
  | f + 1, i, p, e, D, h, hf, hi, x, he, hb, d3, q => by
    have hv := x.1.vk
    have hp := x.2.2.2.2
    unfold ee_batl at q
    by_cases k23 : ee_k tx n p = 23
    · rw [if_pos k23] at q
      obtain ⟨g1, g2⟩ := ee_gt hn hp (show ee_k tx n p ≠ 24 by omega)
      have nb : ee_k tx n p ≠ 25 := by omega
      have t := x.2.1
      rw [(ee_nf_n hn).mpr nb] at t
      have e7 : eb_I h s_tape 7 = 0 := t.2.2.2.2.2.1
      have k2 := (ee_k23_so hn nb).mpr k23
      have e5 : eb_I h s_tape 5 = 2 := by rw [t.2.2.2.1, k2]; rfl
      have e6 : eb_I h s_tape 6 = nI (ee_v tx n p) := t.2.2.2.2.1 k2
      have vl := ee_v_lt hn k23
      have iE : eb_I h s_reader_start 1 = nI e := x.2.2.1 32 (by decide) (by decide)
      have i2 : eb_I h v 2 = nI c := by
        have : eb_I h v 2 = D.1 3 := x.2.2.1 3 (by decide) (by decide)
        rw [this]; exact d3
      have e1 : nI i + 1 = nI (i + 1) := nI_add i 1
      obtain ⟨b1, b2⟩ := ee_bw he vl
      refine b_X5_readBat_33 (d := d + 7) _ x.ko ⟨fun z => absurd z (nI_ge (b := 900) (show i < 900 by omega) (by decide)), fun _ => ⟨fun z => absurd e7 z, fun _ => ⟨fun z => absurd e5 z, fun _ => ?_⟩⟩⟩
      rw [e6, iE, b1, e1]
      refine ec_b2 _ b2 x.ko ⟨_, rfl, x.ko, v, x.1.2.2.2.1, hv.1, ?_⟩
      have bl := ec_bc_le (ee_wt e (ee_v tx n p))
      rw [i2, nI_leI (by omega) (by omega)]
      by_cases ok : ee_ok tx n p 1 6
      · rw [if_pos ok] at q
        obtain ⟨_, w1, w6⟩ := ok
        have ok : ee_ok tx n p 1 6 := ⟨k23, w1, w6⟩
        have ew : ee_wt e (ee_v tx n p) = e ||| 2 ^ (ee_v tx n p - 1) := by
          unfold ee_wt
          rw [if_neg (by omega), show min (ee_v tx n p) 6 = ee_v tx n p by omega]
        rw [ew] at b2 ⊢
        have bc := ee_bc1 e he (ee_v tx n p - 1) (by omega)
        rw [bc]
        by_cases nw : e / 2 ^ (ee_v tx n p - 1) % 2 = 0 ∧ ec_bc e = c
        · rw [if_pos nw] at q
          rw [if_pos nw.1]
          refine ⟨fun z => absurd z (by omega), fun _ => ?_⟩
          refine C_flR hn x 3 (by decide) (fun h20 F20 x20 => ⟨rfl, x20.ko, ?_⟩)
          refine C_nm0 (d := d + 6) x20 _ _ (fun h23 F23 x23 => ⟨_, rfl, x23.ko, ?_⟩)
          have X := x23.set (t := 3) (k := 1) (x := nI (e ||| 2 ^ (ee_v tx n p - 1))) (by decide)
          refine C_bat0 X (q _ ((F20.vf.trans F23.vf).sI (t := 3) hv (by decide)) (Or.inl ⟨_, rfl, ?_⟩))
          have ef : ee_fa tx n p 3 = (3, nI (ee_b tx n p)) := by unfold ee_fa; rw [if_neg nb]
          rw [← ef]
          exact X
        · rw [if_neg nw] at q
          have le : ec_bc e + (if e / 2 ^ (ee_v tx n p - 1) % 2 = 0 then 1 else 0) ≤ c := by
            by_cases z : e / 2 ^ (ee_v tx n p - 1) % 2 = 0
            · rw [if_pos z]
              have : ec_bc e ≠ c := fun u => nw ⟨z, u⟩
              omega
            · rw [if_neg z]
              omega
          refine ⟨fun _ => ?_, fun z => absurd le z⟩
          refine C_nmR (d := d) ht hn x 1 6 (by decide) (by decide) (fun _ h17 F17 x17 => ⟨_, rfl, x17.ko, ?_⟩) (fun no => absurd ok no)
          have X := x17.set (j := 32) (x := nI (e ||| 2 ^ (ee_v tx n p - 1))) (by decide) (by decide)
          rw [ee_set_set] at X
          exact C_batl ht hn hc f (i + 1) _ _ D _ (by omega) (by omega) X b2 (by rw [bc]; exact le) d3 (fun h' F' x' => q h' ((F17.vf.sI (t := 3) hv (by decide)).trans F') x')
      · rw [if_neg ok] at q
        generalize ee_wt e (ee_v tx n p) = e' at b2 ⊢
        refine ⟨fun _ => ?_, fun _ => ?_⟩
        · refine C_nmR (d := d) ht hn x 1 6 (by decide) (by decide) (fun o => absurd o ok) (fun _ h17 F17 x17 => ⟨_, rfl, x17.ko, ?_⟩)
          have X := x17.set (t := 3) (k := 1) (x := nI e') (by decide)
          exact C_bat0 X (q _ (F17.vf.sI (t := 3) hv (by decide)) (Or.inl ⟨_, rfl, X⟩))
        · refine C_flR hn x 3 (by decide) (fun h20 F20 x20 => ⟨rfl, x20.ko, ?_⟩)
          refine C_nm0 (d := d + 6) x20 _ _ (fun h23 F23 x23 => ⟨_, rfl, x23.ko, ?_⟩)
          have X := x23.set (t := 3) (k := 1) (x := nI e') (by decide)
          refine C_bat0 X (q _ ((F20.vf.trans F23.vf).sI (t := 3) hv (by decide)) (Or.inl ⟨_, rfl, ?_⟩))
          have ef : ee_nfa tx n p = ee_fa tx n p 3 := by unfold ee_nfa; rw [if_pos k23]
          rw [ef]
          exact X
    · rw [if_neg k23] at q
      have X := q h ee_vf.rfl (Or.inr ⟨rfl, x⟩)
      refine b_X5_readBat_33 (d := d + 7) _ x.ko ⟨fun _ => X, fun _ => ⟨fun _ => X, fun z7 => ⟨fun _ => X, fun z5 => ?_⟩⟩⟩
      have t := x.2.1
      by_cases nb : ee_k tx n p = 25
      · rw [ee_nf_s hn nb 2] at t
        exact absurd (t.2.2.2.2.2.1.symm.trans z7) t.2.2.2.2.2.2.2
      · refine absurd ((ee_k23_so hn nb).mp ?_) k23
        rw [t.2.2.2.1] at z5
        exact (nI_eq (b := 2) (by have := ee_so_lt tx n (ee_b tx n p); omega) (by omega)).mp z5
theorem C_bat {d : Nat} {h g0 : eb_H} {Q : Option Value → eb_H → Prop} {tx : Nat → Nat} {n p v a b c s : Nat} {D : ee_D} (ht : ∀ j, j < n → tx j < 256) (hn : n ≤ 900) (x : ee_XR g0 h v tx n p D) (dw : ee_DW D a b c s) (nb : ee_k tx n p ≠ 25) (q : ∀ h', ee_vf v h h' → ee_XQ g0 h' v tx n (ee_lbat tx n p a b c D) → Q none h') : eb_Ct (d + 8) 58 [.ref s_reader] h Q := by
  unfold ee_lbat ee_nb at q
  have hv := x.1.vk
  refine T_X5_readBat (d := d + 7) x.ko (C_nxR (d := d + 1) ht hn x nb (fun h1 F1 x1 => ⟨rfl, x1.ko, v, x1.1.2.2.2.1, hv.1, ?_⟩))
  refine C_rcR (d := d) ht hn x1 dw (fun ok h7 F7 x7 => ⟨_, rfl, x7.ko, ?_⟩) (fun no h7 F7 x7 => ⟨_, rfl, x7.ko, ?_⟩)
  · rw [if_pos ok] at q
    have X := (x7.set (j := 31) (x := nI (ee_v tx n (ee_e tx n p))) (by decide) (by decide)).set (j := 32) (x := nI 0) (by decide) (by decide)
    exact C_batl (d := d) (h0 := h) (Q := Q) ht hn dw.2.2.1.2.2 1000 0 _ 0 _ _ (by omega) (Nat.zero_le _) X (by decide) (Nat.zero_le _) dw.2.2.1.1 (fun h' F' x' => q h' ((((F1.vf.trans F7.vf).sI (t := 3) hv (by decide)).sI (t := 3) hv (by decide)).trans F') x')
  · rw [if_neg no] at q
    have X := (x7.set (t := 3) (k := 0) (x := nI 0) (by decide)).set (t := 3) (k := 1) (x := 0) (by decide)
    exact C_bat0 X (q _ (((F1.vf.trans F7.vf).sI (t := 3) hv (by decide)).sI (t := 3) hv (by decide)) (Or.inl ⟨_, rfl, X⟩))
end EBXBAT
